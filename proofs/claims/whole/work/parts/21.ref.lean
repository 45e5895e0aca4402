/-! X12_in -/
noncomputable def fX12_in_b18 (T : zT) (s0 : Int32) (S : zS) : Option Int32 :=
  zgd (zbl s0) (some s0)
noncomputable def fX12_in_b17 (T : zT)  (S : zS) : Option Int32 :=
  fX12_in_b18 T 0 S
noncomputable def fX12_in (T : zT) (l0 : Int64) (l2 : Int64) (l4 : Int64) (S : zS) : Option Int32 :=
  if (lg_cmp l0 l2) < 0 then fX12_in_b17 T  S else if 0 < (lg_cmp l0 l4) then fX12_in_b17 T  S else fX12_in_b18 T 1 S
set_option maxHeartbeats 4000000 in
set_option maxRecDepth 100000 in
theorem tX12_in_b18 (T : zT) (s0 : Int32) (S : zS)  {g : zG} (r : Int32) (h : fX12_in_b18 T s0 S = some r)  : zg g 0 mX12_in T 18 [none, none, none, none, none, none] [.int s0] T S (some (.int r)) T S := by
  unfold fX12_in_b18 at h
  obtain ⟨q2, h⟩ := zgd_elim h
  cases h
  exact z_zret rfl (zbl_ok q2) dX12_in_18
set_option maxHeartbeats 4000000 in
set_option maxRecDepth 100000 in
theorem tX12_in_b17 (T : zT)  (S : zS)  {g : zG} (r : Int32) (h : fX12_in_b17 T  S = some r)  : zg g 0 mX12_in T 17 [none, none, none, none, none, none] [] T S (some (.int r)) T S := by
  unfold fX12_in_b17 at h
  refine z_iconst dX12_in_17 cI_0 ?_
  exact z_mask [false, false, false, false, false, false] rfl (tX12_in_b18 T 0 S  r h)
set_option maxHeartbeats 4000000 in
set_option maxRecDepth 100000 in
theorem tX12_in (T : zT) (l0 : Int64) (l2 : Int64) (l4 : Int64) (S : zS)  (r : Int32) (h : fX12_in T l0 l2 l4 S = some r) : zGM 0 mX12_in [.long l0, .long l2, .long l4] T S (some (.int r)) T S := by
  refine zGM_of zpnX12 rfl (Nat.le_of_ble_eq_true rfl) (fun g => ?_)
  show zg g 0 mX12_in T 0 [some (.long l0), none, some (.long l2), none, some (.long l4), none] [] T S (some (.int r)) T S
  unfold fX12_in at h
  refine z_lload_n dX12_in_0 rfl ?_
  refine z_lload_n dX12_in_1 rfl ?_
  refine z_lcmp dX12_in_2 rfl ?_
  refine z_if_lt (tgt := 17) dX12_in_3 (by decide) (fun q1 => ?_) (fun q1 => ?_)
  · rw [if_pos q1] at h
    exact z_mask [false, false, false, false, false, false] rfl (tX12_in_b17 T  S  r h)
  · rw [if_neg q1] at h
    refine z_lload_n dX12_in_6 rfl ?_
    refine z_lload dX12_in_7 rfl ?_
    refine z_lcmp dX12_in_9 rfl ?_
    refine z_if_gt (tgt := 17) dX12_in_10 (by decide) (fun q3 => ?_) (fun q3 => ?_)
    · rw [if_pos q3] at h
      exact z_mask [false, false, false, false, false, false] rfl (tX12_in_b17 T  S  r h)
    · rw [if_neg q3] at h
      refine z_iconst dX12_in_13 cI_1 ?_
      refine z_goto (tgt := 18) dX12_in_14 (by decide) ?_
      exact z_mask [false, false, false, false, false, false] rfl (tX12_in_b18 T 1 S  r h)
/-! X12_bits -/
noncomputable def fX12_bits_l4 (T : zT)  (S : zS) (x1 : Int32) (x2 : Int32) : Option ((Int32 × Int32) ⊕ Int32) :=
  if x2 = 0 then some (.inr x1) else zlet (x1 + 1) fun u2 => zlet (x2 &&& (x2 - 1)) fun u3 => some (.inl (u2, u3))
noncomputable def fX12_bits (T : zT) (x0 : Int32) (S : zS) : Option Int32 :=
  zb1 (lp (fun a => fX12_bits_l4 T  S a.1 a.2) (0, x0)) fun e4 => some e4
set_option maxHeartbeats 4000000 in
set_option maxRecDepth 100000 in
theorem tX12_bits_l4b (T : zT)  (S : zS) (x1 : Int32) (x2 : Int32)  {g : zG} {v : Option Value} {S' : zS} (r : (Int32 × Int32) ⊕ Int32) (h : fX12_bits_l4 T  S x1 x2 = some r) (K1 : ∀ a : (Int32 × Int32), r = .inl a → zg g 0 mX12_bits T 4 [none, some (.int a.1), some (.int a.2)] [] T S v T S') (K2_0 : ∀ e : Int32, r = .inr e → zg g 0 mX12_bits T 20 [none, some (.int e), none] [] T S v T S') : zg g 0 mX12_bits T 4 [none, some (.int x1), some (.int x2)] [] T S v T S' := by
  unfold fX12_bits_l4 at h
  refine z_iload_n dX12_bits_4 rfl ?_
  refine z_if_eq (tgt := 20) dX12_bits_5 (by decide) (fun q1 => ?_) (fun q1 => ?_)
  · rw [if_pos q1] at h
    cases h
    exact z_mask [false, true, false] rfl (K2_0 _ rfl)
  · rw [if_neg q1] at h
    obtain ⟨u2, eu2, h⟩ := zlet_elim h
    refine z_iinc (r := u2) dX12_bits_8 rfl (by rw [eu2, cI_1]) rfl (by decide) rfl ?_
    refine z_iload_n dX12_bits_11 rfl ?_
    refine z_iload_n dX12_bits_12 rfl ?_
    refine z_iconst dX12_bits_13 cI_1 ?_
    refine z_isub dX12_bits_14 rfl ?_
    refine z_iand dX12_bits_15 rfl ?_
    obtain ⟨u3, eu3, h⟩ := zlet_elim h
    refine z_ti eu3 ?_
    refine z_istore_n dX12_bits_16 rfl (by decide) rfl ?_
    refine z_goto (tgt := 4) dX12_bits_17 (by decide) ?_
    cases h
    exact z_mask [false, true, true] rfl (K1 _ rfl)
set_option maxHeartbeats 4000000 in
set_option maxRecDepth 100000 in
theorem tX12_bits_l4 (T : zT)  (S : zS)  {g : zG} {v : Option Value} {S' : zS} : ∀ (n : Nat) (a : (Int32 × Int32)) (e : Int32), lpn (fun a => fX12_bits_l4 T  S a.1 a.2) n a = some e → (∀ e1 : Int32, e = e1 → zg g 0 mX12_bits T 20 [none, some (.int e1), none] [] T S v T S') → zg g 0 mX12_bits T 4 [none, some (.int a.1), some (.int a.2)] [] T S v T S' := by
  intro n
  induction n with
  | zero =>
    intro a e h
    cases h
  | succ n ih =>
    intro a e h k0_
    rcases lpn_succ h with ⟨a1, ha_, hb_⟩ | ha_
    · exact tX12_bits_l4b T  S a.1 a.2  _ ha_ (fun a2 q => by cases q; exact ih a1 e hb_ k0_) (fun e1 q => by cases q)
    · exact tX12_bits_l4b T  S a.1 a.2  _ ha_ (fun a2 q => by cases q) (fun e1 q => by cases q; exact k0_ _ rfl)
set_option maxHeartbeats 4000000 in
set_option maxRecDepth 100000 in
theorem tX12_bits (T : zT) (x0 : Int32) (S : zS)  (r : Int32) (h : fX12_bits T x0 S = some r) : zGM 0 mX12_bits [.int x0] T S (some (.int r)) T S := by
  refine zGM_of zpnX12 rfl (Nat.le_of_ble_eq_true rfl) (fun g => ?_)
  show zg g 0 mX12_bits T 0 [some (.int x0), none, none] [] T S (some (.int r)) T S
  unfold fX12_bits at h
  refine z_iconst dX12_bits_0 cI_0 ?_
  refine z_istore_n dX12_bits_1 rfl (by decide) rfl ?_
  refine z_iload_n dX12_bits_2 rfl ?_
  refine z_istore_n dX12_bits_3 rfl (by decide) rfl ?_
  obtain ⟨e4, hl5, h⟩ := zb1_elim h
  obtain ⟨nf6, hl5⟩ := lp_some hl5
  refine z_mask [false, true, true] rfl (tX12_bits_l4 T  S  nf6 (0, x0) e4 hl5 (fun e_ q => ?_))
  · cases q
    refine z_iload_n dX12_bits_20 rfl ?_
    cases h
    exact z_iret rfl dX12_bits_21
/-! X12_clears -/
noncomputable def fX12_clears_l5 (T : zT) (k0 : Nat) (x1 : Int32) (x2 : Int32) (S : zS) : Option ((Int32 × zS) ⊕ zS) :=
  if ((8 * x1) + 8) ≤ x2 then some (.inr S) else zgd (zin x2 16) (zlet (zI S (zr T k0 22) (x2 : Int32).toNatClampNeg 0) fun S4 => zgd (zin x2 16) (zlet (zI S4 (zr T k0 23) (x2 : Int32).toNatClampNeg 0) fun S6 => zgd (zin x2 16) (zlet (zI S6 (zr T k0 24) (x2 : Int32).toNatClampNeg 0) fun S8 => zgd (zin x2 16) (zlet (zI S8 (zr T k0 25) (x2 : Int32).toNatClampNeg (-1)) fun S10 => zgd (zin x2 16) (zlet (zI S10 (zr T k0 26) (x2 : Int32).toNatClampNeg 0) fun S12 => zgd (zin x2 16) (zlet (zI S12 (zr T k0 27) (x2 : Int32).toNatClampNeg 0) fun S14 => zgd (zin x2 16) (zlet (zI S14 (zr T k0 28) (x2 : Int32).toNatClampNeg 0) fun S16 => zlet (x2 + 1) fun u17 => some (.inl (u17, S16)))))))))
noncomputable def fX12_clears (T : zT) (k0 : Nat) (x1 : Int32) (S : zS) : Option (Unit × zS) :=
  zlet (8 * x1) fun u1 => zb1 (lp (fun a => fX12_clears_l5 T k0 x1 a.1 a.2) (u1, S)) fun e18 => zgd (zin x1 2) (zlet (zI e18 (zr T k0 29) (x1 : Int32).toNatClampNeg 1000) fun S20 => zgd (zin x1 2) (zlet (zI S20 (zr T k0 30) (x1 : Int32).toNatClampNeg 0) fun S22 => zgd (zin x1 2) (zlet (zI S22 (zr T k0 31) (x1 : Int32).toNatClampNeg (-1)) fun S24 => zgd (zin x1 2) (zlet (zI S24 (zr T k0 32) (x1 : Int32).toNatClampNeg 0) fun S26 => zgd (zin x1 2) (zlet (zI S26 (zr T k0 33) (x1 : Int32).toNatClampNeg 12) fun S28 => some ((), S28))))))
set_option maxHeartbeats 4000000 in
set_option maxRecDepth 100000 in
theorem tX12_clears_l5b (T : zT) (k0 : Nat) (x1 : Int32) (x2 : Int32) (S : zS) (h0 : iX12 T k0) {g : zG} {v : Option Value} {S' : zS} (r : (Int32 × zS) ⊕ zS) (h : fX12_clears_l5 T k0 x1 x2 S = some r) (K1 : ∀ a : (Int32 × zS), r = .inl a → zg g 0 mX12_clears T 5 [some (.ref k0), some (.int x1), some (.int a.1)] [] T a.2 v T S') (K2_0 : ∀ e : zS, r = .inr e → zg g 0 mX12_clears T 71 [some (.ref k0), some (.int x1), none] [] T e v T S') : zg g 0 mX12_clears T 5 [some (.ref k0), some (.int x1), some (.int x2)] [] T S v T S' := by
  unfold fX12_clears_l5 at h
  refine z_iload_n dX12_clears_5 rfl ?_
  refine z_bipush dX12_clears_6 cB_8 ?_
  refine z_iload_n dX12_clears_8 rfl ?_
  refine z_imul dX12_clears_9 rfl ?_
  refine z_bipush dX12_clears_10 cB_8 ?_
  refine z_iadd dX12_clears_12 rfl ?_
  refine z_icmp_ge (tgt := 71) dX12_clears_13 (by decide) (fun q2 => ?_) (fun q2 => ?_)
  · rw [if_pos q2] at h
    cases h
    exact z_mask [true, true, false] rfl (K2_0 _ rfl)
  · rw [if_neg q2] at h
    refine z_aload_n dX12_clears_16 rfl ?_
    refine z_gA (zF.x zfX12_44) h0.1 dX12_clears_17 ?_
    refine z_iload_n dX12_clears_20 rfl ?_
    refine z_iconst dX12_clears_21 cI_0 ?_
    obtain ⟨q3, h⟩ := zgd_elim h
    refine z_iast h0.2.2.2.2.2.2.2.2.2.2.2.2.1 (zin_ok q3) dX12_clears_22 ?_
    obtain ⟨S4, eS4, h⟩ := zlet_elim h
    refine z_tS eS4 ?_
    refine z_aload_n dX12_clears_23 rfl ?_
    refine z_gA (zF.x zfX12_47) h0.1 dX12_clears_24 ?_
    refine z_iload_n dX12_clears_27 rfl ?_
    refine z_iconst dX12_clears_28 cI_0 ?_
    obtain ⟨q5, h⟩ := zgd_elim h
    refine z_iast h0.2.2.2.2.2.2.2.2.2.2.2.2.2.1 (zin_ok q5) dX12_clears_29 ?_
    obtain ⟨S6, eS6, h⟩ := zlet_elim h
    refine z_tS eS6 ?_
    refine z_aload_n dX12_clears_30 rfl ?_
    refine z_gA (zF.x zfX12_50) h0.1 dX12_clears_31 ?_
    refine z_iload_n dX12_clears_34 rfl ?_
    refine z_iconst dX12_clears_35 cI_0 ?_
    obtain ⟨q7, h⟩ := zgd_elim h
    refine z_iast h0.2.2.2.2.2.2.2.2.2.2.2.2.2.2.1 (zin_ok q7) dX12_clears_36 ?_
    obtain ⟨S8, eS8, h⟩ := zlet_elim h
    refine z_tS eS8 ?_
    refine z_aload_n dX12_clears_37 rfl ?_
    refine z_gA (zF.x zfX12_53) h0.1 dX12_clears_38 ?_
    refine z_iload_n dX12_clears_41 rfl ?_
    refine z_iconst dX12_clears_42 cI_m1 ?_
    obtain ⟨q9, h⟩ := zgd_elim h
    refine z_iast h0.2.2.2.2.2.2.2.2.2.2.2.2.2.2.2.1 (zin_ok q9) dX12_clears_43 ?_
    obtain ⟨S10, eS10, h⟩ := zlet_elim h
    refine z_tS eS10 ?_
    refine z_aload_n dX12_clears_44 rfl ?_
    refine z_gA (zF.x zfX12_56) h0.1 dX12_clears_45 ?_
    refine z_iload_n dX12_clears_48 rfl ?_
    refine z_iconst dX12_clears_49 cI_0 ?_
    obtain ⟨q11, h⟩ := zgd_elim h
    refine z_iast h0.2.2.2.2.2.2.2.2.2.2.2.2.2.2.2.2.1 (zin_ok q11) dX12_clears_50 ?_
    obtain ⟨S12, eS12, h⟩ := zlet_elim h
    refine z_tS eS12 ?_
    refine z_aload_n dX12_clears_51 rfl ?_
    refine z_gA (zF.x zfX12_59) h0.1 dX12_clears_52 ?_
    refine z_iload_n dX12_clears_55 rfl ?_
    refine z_iconst dX12_clears_56 cI_0 ?_
    obtain ⟨q13, h⟩ := zgd_elim h
    refine z_iast h0.2.2.2.2.2.2.2.2.2.2.2.2.2.2.2.2.2.1 (zin_ok q13) dX12_clears_57 ?_
    obtain ⟨S14, eS14, h⟩ := zlet_elim h
    refine z_tS eS14 ?_
    refine z_aload_n dX12_clears_58 rfl ?_
    refine z_gA (zF.x zfX12_62) h0.1 dX12_clears_59 ?_
    refine z_iload_n dX12_clears_62 rfl ?_
    refine z_iconst dX12_clears_63 cI_0 ?_
    obtain ⟨q15, h⟩ := zgd_elim h
    refine z_iast h0.2.2.2.2.2.2.2.2.2.2.2.2.2.2.2.2.2.2.1 (zin_ok q15) dX12_clears_64 ?_
    obtain ⟨S16, eS16, h⟩ := zlet_elim h
    refine z_tS eS16 ?_
    obtain ⟨u17, eu17, h⟩ := zlet_elim h
    refine z_iinc (r := u17) dX12_clears_65 rfl (by rw [eu17, cI_1]) rfl (by decide) rfl ?_
    refine z_goto (tgt := 5) dX12_clears_68 (by decide) ?_
    cases h
    exact z_mask [true, true, true] rfl (K1 _ rfl)
set_option maxHeartbeats 4000000 in
set_option maxRecDepth 100000 in
theorem tX12_clears_l5 (T : zT) (k0 : Nat) (x1 : Int32) (h0 : iX12 T k0) {g : zG} {v : Option Value} {S' : zS} : ∀ (n : Nat) (a : (Int32 × zS)) (e : zS), lpn (fun a => fX12_clears_l5 T k0 x1 a.1 a.2) n a = some e → (∀ e1 : zS, e = e1 → zg g 0 mX12_clears T 71 [some (.ref k0), some (.int x1), none] [] T e1 v T S') → zg g 0 mX12_clears T 5 [some (.ref k0), some (.int x1), some (.int a.1)] [] T a.2 v T S' := by
  intro n
  induction n with
  | zero =>
    intro a e h
    cases h
  | succ n ih =>
    intro a e h k0_
    rcases lpn_succ h with ⟨a1, ha_, hb_⟩ | ha_
    · exact tX12_clears_l5b T k0 x1 a.1 a.2 h0 _ ha_ (fun a2 q => by cases q; exact ih a1 e hb_ k0_) (fun e1 q => by cases q)
    · exact tX12_clears_l5b T k0 x1 a.1 a.2 h0 _ ha_ (fun a2 q => by cases q) (fun e1 q => by cases q; exact k0_ _ rfl)
set_option maxHeartbeats 4000000 in
set_option maxRecDepth 100000 in
theorem tX12_clears (T : zT) (k0 : Nat) (x1 : Int32) (S : zS) (h0 : iX12 T k0) (r : Unit × zS) (h : fX12_clears T k0 x1 S = some r) : zGM 0 mX12_clears [.ref k0, .int x1] T S none T r.2 := by
  refine zGM_of zpnX12 rfl (Nat.le_of_ble_eq_true rfl) (fun g => ?_)
  show zg g 0 mX12_clears T 0 [some (.ref k0), some (.int x1), none] [] T S none T r.2
  unfold fX12_clears at h
  refine z_bipush dX12_clears_0 cB_8 ?_
  refine z_iload_n dX12_clears_2 rfl ?_
  refine z_imul dX12_clears_3 rfl ?_
  obtain ⟨u1, eu1, h⟩ := zlet_elim h
  refine z_ti eu1 ?_
  refine z_istore_n dX12_clears_4 rfl (by decide) rfl ?_
  obtain ⟨e18, hl29, h⟩ := zb1_elim h
  obtain ⟨nf30, hl29⟩ := lp_some hl29
  refine z_mask [true, true, true] rfl (tX12_clears_l5 T k0 x1 h0 nf30 (u1, S) e18 hl29 (fun e_ q => ?_))
  · cases q
    refine z_aload_n dX12_clears_71 rfl ?_
    refine z_gA (zF.x zfX12_65) h0.1 dX12_clears_72 ?_
    refine z_iload_n dX12_clears_75 rfl ?_
    refine z_sipush dX12_clears_76 cS_1000 ?_
    obtain ⟨q19, h⟩ := zgd_elim h
    refine z_iast h0.2.2.2.2.2.2.2.2.2.2.2.2.2.2.2.2.2.2.2.1 (zin_ok q19) dX12_clears_79 ?_
    obtain ⟨S20, eS20, h⟩ := zlet_elim h
    refine z_tS eS20 ?_
    refine z_aload_n dX12_clears_80 rfl ?_
    refine z_gA (zF.x zfX12_68) h0.1 dX12_clears_81 ?_
    refine z_iload_n dX12_clears_84 rfl ?_
    refine z_iconst dX12_clears_85 cI_0 ?_
    obtain ⟨q21, h⟩ := zgd_elim h
    refine z_iast h0.2.2.2.2.2.2.2.2.2.2.2.2.2.2.2.2.2.2.2.2.1 (zin_ok q21) dX12_clears_86 ?_
    obtain ⟨S22, eS22, h⟩ := zlet_elim h
    refine z_tS eS22 ?_
    refine z_aload_n dX12_clears_87 rfl ?_
    refine z_gA (zF.x zfX12_71) h0.1 dX12_clears_88 ?_
    refine z_iload_n dX12_clears_91 rfl ?_
    refine z_iconst dX12_clears_92 cI_m1 ?_
    obtain ⟨q23, h⟩ := zgd_elim h
    refine z_iast h0.2.2.2.2.2.2.2.2.2.2.2.2.2.2.2.2.2.2.2.2.2.1 (zin_ok q23) dX12_clears_93 ?_
    obtain ⟨S24, eS24, h⟩ := zlet_elim h
    refine z_tS eS24 ?_
    refine z_aload_n dX12_clears_94 rfl ?_
    refine z_gA (zF.x zfX12_74) h0.1 dX12_clears_95 ?_
    refine z_iload_n dX12_clears_98 rfl ?_
    refine z_iconst dX12_clears_99 cI_0 ?_
    obtain ⟨q25, h⟩ := zgd_elim h
    refine z_iast h0.2.2.2.2.2.2.2.2.2.2.2.2.2.2.2.2.2.2.2.2.2.2.1 (zin_ok q25) dX12_clears_100 ?_
    obtain ⟨S26, eS26, h⟩ := zlet_elim h
    refine z_tS eS26 ?_
    refine z_aload_n dX12_clears_101 rfl ?_
    refine z_gA (zF.x zfX12_77) h0.1 dX12_clears_102 ?_
    refine z_iload_n dX12_clears_105 rfl ?_
    refine z_bipush dX12_clears_106 cB_12 ?_
    obtain ⟨q27, h⟩ := zgd_elim h
    refine z_iast h0.2.2.2.2.2.2.2.2.2.2.2.2.2.2.2.2.2.2.2.2.2.2.2.1 (zin_ok q27) dX12_clears_108 ?_
    obtain ⟨S28, eS28, h⟩ := zlet_elim h
    refine z_tS eS28 ?_
    cases h
    exact z_vret rfl dX12_clears_109
/-! X12_put -/
noncomputable def fX12_put_l3 (T : zT) (k0 : Nat) (x1 : Int32) (x2 : Int32) (S : zS) : Option ((Int32 × zS) ⊕ zS) :=
  if x2 < 0 then some (.inr S) else zgd (zin (S.1 k0 1) 400) (zlet (zI S (zr T k0 11) ((S.1 k0 1) : Int32).toNatClampNeg (vp_nar .byte (((x1 >>> (x2 &&& 31)) : Int32).toInt8.toInt32))) fun S3 => zlet (zI S3 k0 1 ((S3.1 k0 1) + 1)) fun S4 => zlet (x2 + (-8)) fun u5 => some (.inl (u5, S4)))
noncomputable def fX12_put (T : zT) (k0 : Nat) (x1 : Int32) (S : zS) : Option (Unit × zS) :=
  zb1 (lp (fun a => fX12_put_l3 T k0 x1 a.1 a.2) (24, S)) fun e6 => some ((), e6)
set_option maxHeartbeats 4000000 in
set_option maxRecDepth 100000 in
theorem tX12_put_l3b (T : zT) (k0 : Nat) (x1 : Int32) (x2 : Int32) (S : zS) (h0 : iX12 T k0) {g : zG} {v : Option Value} {S' : zS} (r : (Int32 × zS) ⊕ zS) (h : fX12_put_l3 T k0 x1 x2 S = some r) (K1 : ∀ a : (Int32 × zS), r = .inl a → zg g 0 mX12_put T 3 [some (.ref k0), some (.int x1), some (.int a.1)] [] T a.2 v T S') (K2_0 : ∀ e : zS, r = .inr e → zg g 0 mX12_put T 36 [none, none, none] [] T e v T S') : zg g 0 mX12_put T 3 [some (.ref k0), some (.int x1), some (.int x2)] [] T S v T S' := by
  unfold fX12_put_l3 at h
  refine z_iload_n dX12_put_3 rfl ?_
  refine z_if_lt (tgt := 36) dX12_put_4 (by decide) (fun q1 => ?_) (fun q1 => ?_)
  · rw [if_pos q1] at h
    cases h
    exact z_mask [false, false, false] rfl (K2_0 _ rfl)
  · rw [if_neg q1] at h
    refine z_aload_n dX12_put_7 rfl ?_
    refine z_gA (zF.x zfX12_9) h0.1 dX12_put_8 ?_
    refine z_aload_n dX12_put_11 rfl ?_
    refine z_gI (zF.x zfX12_147) h0.1 dX12_put_12 ?_
    refine z_iload_n dX12_put_15 rfl ?_
    refine z_iload_n dX12_put_16 rfl ?_
    refine z_ishr dX12_put_17 rfl ?_
    refine z_i2b dX12_put_18 rfl ?_
    obtain ⟨q2, h⟩ := zgd_elim h
    refine z_bast h0.2.1 (zin_ok q2) dX12_put_19 ?_
    obtain ⟨S3, eS3, h⟩ := zlet_elim h
    refine z_tS eS3 ?_
    refine z_aload_n dX12_put_20 rfl ?_
    refine z_dup dX12_put_21 rfl ?_
    refine z_gI (zF.x zfX12_147) h0.1 dX12_put_22 ?_
    refine z_iconst dX12_put_25 cI_1 ?_
    refine z_iadd dX12_put_26 rfl ?_
    refine z_putI zfX12_147 h0.1 dX12_put_27 ?_
    obtain ⟨S4, eS4, h⟩ := zlet_elim h
    refine z_tS eS4 ?_
    obtain ⟨u5, eu5, h⟩ := zlet_elim h
    refine z_iinc (r := u5) dX12_put_30 rfl (by rw [eu5, cI_m8]) rfl (by decide) rfl ?_
    refine z_goto (tgt := 3) dX12_put_33 (by decide) ?_
    cases h
    exact z_mask [true, true, true] rfl (K1 _ rfl)
set_option maxHeartbeats 4000000 in
set_option maxRecDepth 100000 in
theorem tX12_put_l3 (T : zT) (k0 : Nat) (x1 : Int32) (h0 : iX12 T k0) {g : zG} {v : Option Value} {S' : zS} : ∀ (n : Nat) (a : (Int32 × zS)) (e : zS), lpn (fun a => fX12_put_l3 T k0 x1 a.1 a.2) n a = some e → (∀ e1 : zS, e = e1 → zg g 0 mX12_put T 36 [none, none, none] [] T e1 v T S') → zg g 0 mX12_put T 3 [some (.ref k0), some (.int x1), some (.int a.1)] [] T a.2 v T S' := by
  intro n
  induction n with
  | zero =>
    intro a e h
    cases h
  | succ n ih =>
    intro a e h k0_
    rcases lpn_succ h with ⟨a1, ha_, hb_⟩ | ha_
    · exact tX12_put_l3b T k0 x1 a.1 a.2 h0 _ ha_ (fun a2 q => by cases q; exact ih a1 e hb_ k0_) (fun e1 q => by cases q)
    · exact tX12_put_l3b T k0 x1 a.1 a.2 h0 _ ha_ (fun a2 q => by cases q) (fun e1 q => by cases q; exact k0_ _ rfl)
set_option maxHeartbeats 4000000 in
set_option maxRecDepth 100000 in
theorem tX12_put (T : zT) (k0 : Nat) (x1 : Int32) (S : zS) (h0 : iX12 T k0) (r : Unit × zS) (h : fX12_put T k0 x1 S = some r) : zGM 0 mX12_put [.ref k0, .int x1] T S none T r.2 := by
  refine zGM_of zpnX12 rfl (Nat.le_of_ble_eq_true rfl) (fun g => ?_)
  show zg g 0 mX12_put T 0 [some (.ref k0), some (.int x1), none] [] T S none T r.2
  unfold fX12_put at h
  refine z_bipush dX12_put_0 cB_24 ?_
  refine z_istore_n dX12_put_2 rfl (by decide) rfl ?_
  obtain ⟨e6, hl7, h⟩ := zb1_elim h
  obtain ⟨nf8, hl7⟩ := lp_some hl7
  refine z_mask [true, true, true] rfl (tX12_put_l3 T k0 x1 h0 nf8 (24, S) e6 hl7 (fun e_ q => ?_))
  · cases q
    cases h
    exact z_vret rfl dX12_put_36
/-! X12_end -/
noncomputable def fX12_end_b12 (T : zT)  (S : zS) : Option (Int32 × zS) :=
  some ((-1), S)
noncomputable def fX12_end (T : zT) (k0 : Nat) (x1 : Int32) (S : zS) : Option (Int32 × zS) :=
  if x1 < 0 then fX12_end_b12 T  S else if x1 ≤ (S.1 k0 1) then zlet (zI S k0 1 x1) fun S3 => some (x1, S3) else fX12_end_b12 T  S
set_option maxHeartbeats 4000000 in
set_option maxRecDepth 100000 in
theorem tX12_end_b12 (T : zT)  (S : zS)  {g : zG} (r : (Int32 × zS)) (h : fX12_end_b12 T  S = some r)  : zg g 0 mX12_end T 12 [none, none] [] T S (some (.int r.1)) T r.2 := by
  unfold fX12_end_b12 at h
  refine z_iconst dX12_end_12 cI_m1 ?_
  cases h
  exact z_iret rfl dX12_end_13
set_option maxHeartbeats 4000000 in
set_option maxRecDepth 100000 in
theorem tX12_end (T : zT) (k0 : Nat) (x1 : Int32) (S : zS) (h0 : iX12 T k0) (r : Int32 × zS) (h : fX12_end T k0 x1 S = some r) : zGM 0 mX12_end [.ref k0, .int x1] T S (some (.int r.1)) T r.2 := by
  refine zGM_of zpnX12 rfl (Nat.le_of_ble_eq_true rfl) (fun g => ?_)
  show zg g 0 mX12_end T 0 [some (.ref k0), some (.int x1)] [] T S (some (.int r.1)) T r.2
  unfold fX12_end at h
  refine z_iload_n dX12_end_0 rfl ?_
  refine z_if_lt (tgt := 12) dX12_end_1 (by decide) (fun q1 => ?_) (fun q1 => ?_)
  · rw [if_pos q1] at h
    exact z_mask [false, false] rfl (tX12_end_b12 T  S  r h)
  · rw [if_neg q1] at h
    refine z_iload_n dX12_end_4 rfl ?_
    refine z_aload_n dX12_end_5 rfl ?_
    refine z_gI (zF.x zfX12_147) h0.1 dX12_end_6 ?_
    refine z_icmp_le (tgt := 14) dX12_end_9 (by decide) (fun q2 => ?_) (fun q2 => ?_)
    · rw [if_pos q2] at h
      refine z_aload_n dX12_end_14 rfl ?_
      refine z_iload_n dX12_end_15 rfl ?_
      refine z_putI zfX12_147 h0.1 dX12_end_16 ?_
      obtain ⟨S3, eS3, h⟩ := zlet_elim h
      refine z_tS eS3 ?_
      refine z_iload_n dX12_end_19 rfl ?_
      cases h
      exact z_iret rfl dX12_end_20
    · rw [if_neg q2] at h
      exact z_mask [false, false] rfl (tX12_end_b12 T  S  r h)
/-! X12_ruleWord -/
noncomputable def fX12_ruleWord (T : zT) (x0 : Int32) (S : zS) : Option Nat :=
  if x0 = 0 then some 3 else if x0 = 1 then some 4 else if x0 = 2 then some 5 else if x0 = 3 then some 6 else if x0 = 4 then some 7 else if x0 = 5 then some 8 else if x0 = 6 then some 9 else if x0 = 7 then some 10 else some 11
set_option maxHeartbeats 4000000 in
set_option maxRecDepth 100000 in
theorem tX12_ruleWord (T : zT) (x0 : Int32) (S : zS)  (r : Nat) (h : fX12_ruleWord T x0 S = some r) : zGM 0 mX12_ruleWord [.int x0] T S (some (.ref (10002 + r))) T S := by
  refine zGM_of zpnX12 rfl (Nat.le_of_ble_eq_true rfl) (fun g => ?_)
  show zg g 0 mX12_ruleWord T 0 [some (.int x0)] [] T S (some (.ref (10002 + r))) T S
  unfold fX12_ruleWord at h
  refine z_iload_n dX12_ruleWord_0 rfl ?_
  by_cases q1 : x0 = 0
  · rw [if_pos q1] at h
    refine z_tableIn (off := 47) (tgt := 48) dX12_ruleWord_1 (by show ¬ x0.toInt < 0; rw [q1]; decide) (by show ¬ 7 < x0.toInt; rw [q1]; decide) (by rw [q1]; rfl) (by decide) ?_
    refine z_ldcS (i := 3) rfl dX12_ruleWord_48 ?_
    cases h
    exact z_aret rfl (Or.inl ⟨_, rfl⟩) dX12_ruleWord_50
  rw [if_neg q1] at h
  by_cases q2 : x0 = 1
  · rw [if_pos q2] at h
    refine z_tableIn (off := 50) (tgt := 51) dX12_ruleWord_1 (by show ¬ x0.toInt < 0; rw [q2]; decide) (by show ¬ 7 < x0.toInt; rw [q2]; decide) (by rw [q2]; rfl) (by decide) ?_
    refine z_ldcS (i := 4) rfl dX12_ruleWord_51 ?_
    cases h
    exact z_aret rfl (Or.inl ⟨_, rfl⟩) dX12_ruleWord_53
  rw [if_neg q2] at h
  by_cases q3 : x0 = 2
  · rw [if_pos q3] at h
    refine z_tableIn (off := 53) (tgt := 54) dX12_ruleWord_1 (by show ¬ x0.toInt < 0; rw [q3]; decide) (by show ¬ 7 < x0.toInt; rw [q3]; decide) (by rw [q3]; rfl) (by decide) ?_
    refine z_ldcS (i := 5) rfl dX12_ruleWord_54 ?_
    cases h
    exact z_aret rfl (Or.inl ⟨_, rfl⟩) dX12_ruleWord_56
  rw [if_neg q3] at h
  by_cases q4 : x0 = 3
  · rw [if_pos q4] at h
    refine z_tableIn (off := 56) (tgt := 57) dX12_ruleWord_1 (by show ¬ x0.toInt < 0; rw [q4]; decide) (by show ¬ 7 < x0.toInt; rw [q4]; decide) (by rw [q4]; rfl) (by decide) ?_
    refine z_ldcS (i := 6) rfl dX12_ruleWord_57 ?_
    cases h
    exact z_aret rfl (Or.inl ⟨_, rfl⟩) dX12_ruleWord_59
  rw [if_neg q4] at h
  by_cases q5 : x0 = 4
  · rw [if_pos q5] at h
    refine z_tableIn (off := 59) (tgt := 60) dX12_ruleWord_1 (by show ¬ x0.toInt < 0; rw [q5]; decide) (by show ¬ 7 < x0.toInt; rw [q5]; decide) (by rw [q5]; rfl) (by decide) ?_
    refine z_ldcS (i := 7) rfl dX12_ruleWord_60 ?_
    cases h
    exact z_aret rfl (Or.inl ⟨_, rfl⟩) dX12_ruleWord_62
  rw [if_neg q5] at h
  by_cases q6 : x0 = 5
  · rw [if_pos q6] at h
    refine z_tableIn (off := 62) (tgt := 63) dX12_ruleWord_1 (by show ¬ x0.toInt < 0; rw [q6]; decide) (by show ¬ 7 < x0.toInt; rw [q6]; decide) (by rw [q6]; rfl) (by decide) ?_
    refine z_ldcS (i := 8) rfl dX12_ruleWord_63 ?_
    cases h
    exact z_aret rfl (Or.inl ⟨_, rfl⟩) dX12_ruleWord_65
  rw [if_neg q6] at h
  by_cases q7 : x0 = 6
  · rw [if_pos q7] at h
    refine z_tableIn (off := 65) (tgt := 66) dX12_ruleWord_1 (by show ¬ x0.toInt < 0; rw [q7]; decide) (by show ¬ 7 < x0.toInt; rw [q7]; decide) (by rw [q7]; rfl) (by decide) ?_
    refine z_ldcS (i := 9) rfl dX12_ruleWord_66 ?_
    cases h
    exact z_aret rfl (Or.inl ⟨_, rfl⟩) dX12_ruleWord_68
  rw [if_neg q7] at h
  by_cases q8 : x0 = 7
  · rw [if_pos q8] at h
    refine z_tableIn (off := 68) (tgt := 69) dX12_ruleWord_1 (by show ¬ x0.toInt < 0; rw [q8]; decide) (by show ¬ 7 < x0.toInt; rw [q8]; decide) (by rw [q8]; rfl) (by decide) ?_
    refine z_ldcS (i := 10) rfl dX12_ruleWord_69 ?_
    cases h
    exact z_aret rfl (Or.inl ⟨_, rfl⟩) dX12_ruleWord_71
  rw [if_neg q8] at h
  have q1i : ¬ x0.toInt = 0 := zneI q1 (by decide)
  have q2i : ¬ x0.toInt = 1 := zneI q2 (by decide)
  have q3i : ¬ x0.toInt = 2 := zneI q3 (by decide)
  have q4i : ¬ x0.toInt = 3 := zneI q4 (by decide)
  have q5i : ¬ x0.toInt = 4 := zneI q5 (by decide)
  have q6i : ¬ x0.toInt = 5 := zneI q6 (by decide)
  have q7i : ¬ x0.toInt = 6 := zneI q7 (by decide)
  have q8i : ¬ x0.toInt = 7 := zneI q8 (by decide)
  refine z_tableOut (tgt := 72) dX12_ruleWord_1 (by show x0.toInt < 0 ∨ 7 < x0.toInt; omega) (by decide) ?_
  refine z_ldcS (i := 11) rfl dX12_ruleWord_72 ?_
  cases h
  exact z_aret rfl (Or.inl ⟨_, rfl⟩) dX12_ruleWord_74
set_option maxHeartbeats 4000000 in
set_option maxRecDepth 100000 in
theorem uX12_ruleWord (T : zT) (x0 : Int32) (S : zS)  (r : Nat) (h : fX12_ruleWord T x0 S = some r) : r < 27 := by
  unfold fX12_ruleWord at h
  (repeat' split at h) <;> first | (cases h; decide) | (obtain ⟨r4, hc4, h⟩ := zb1_elim h; cases h; exact uX12_ruleWord _ _ _ _ hc4)
/-! X12_clauseOf -/
noncomputable def fX12_clauseOf (T : zT) (x0 : Int32) (S : zS) : Option Nat :=
  if x0 = 0 then some 16 else if x0 = 1 then some 17 else if x0 = 2 then some 18 else if x0 = 3 then some 19 else if x0 = 4 then some 20 else if x0 = 5 then some 9 else some 21
set_option maxHeartbeats 4000000 in
set_option maxRecDepth 100000 in
theorem tX12_clauseOf (T : zT) (x0 : Int32) (S : zS)  (r : Nat) (h : fX12_clauseOf T x0 S = some r) : zGM 0 mX12_clauseOf [.int x0] T S (some (.ref (10002 + r))) T S := by
  refine zGM_of zpnX12 rfl (Nat.le_of_ble_eq_true rfl) (fun g => ?_)
  show zg g 0 mX12_clauseOf T 0 [some (.int x0)] [] T S (some (.ref (10002 + r))) T S
  unfold fX12_clauseOf at h
  refine z_iload_n dX12_clauseOf_0 rfl ?_
  by_cases q1 : x0 = 0
  · rw [if_pos q1] at h
    refine z_tableIn (off := 39) (tgt := 40) dX12_clauseOf_1 (by show ¬ x0.toInt < 0; rw [q1]; decide) (by show ¬ 5 < x0.toInt; rw [q1]; decide) (by rw [q1]; rfl) (by decide) ?_
    refine z_ldcS (i := 16) rfl dX12_clauseOf_40 ?_
    cases h
    exact z_aret rfl (Or.inl ⟨_, rfl⟩) dX12_clauseOf_42
  rw [if_neg q1] at h
  by_cases q2 : x0 = 1
  · rw [if_pos q2] at h
    refine z_tableIn (off := 42) (tgt := 43) dX12_clauseOf_1 (by show ¬ x0.toInt < 0; rw [q2]; decide) (by show ¬ 5 < x0.toInt; rw [q2]; decide) (by rw [q2]; rfl) (by decide) ?_
    refine z_ldcS (i := 17) rfl dX12_clauseOf_43 ?_
    cases h
    exact z_aret rfl (Or.inl ⟨_, rfl⟩) dX12_clauseOf_45
  rw [if_neg q2] at h
  by_cases q3 : x0 = 2
  · rw [if_pos q3] at h
    refine z_tableIn (off := 45) (tgt := 46) dX12_clauseOf_1 (by show ¬ x0.toInt < 0; rw [q3]; decide) (by show ¬ 5 < x0.toInt; rw [q3]; decide) (by rw [q3]; rfl) (by decide) ?_
    refine z_ldcS (i := 18) rfl dX12_clauseOf_46 ?_
    cases h
    exact z_aret rfl (Or.inl ⟨_, rfl⟩) dX12_clauseOf_48
  rw [if_neg q3] at h
  by_cases q4 : x0 = 3
  · rw [if_pos q4] at h
    refine z_tableIn (off := 48) (tgt := 49) dX12_clauseOf_1 (by show ¬ x0.toInt < 0; rw [q4]; decide) (by show ¬ 5 < x0.toInt; rw [q4]; decide) (by rw [q4]; rfl) (by decide) ?_
    refine z_ldcS (i := 19) rfl dX12_clauseOf_49 ?_
    cases h
    exact z_aret rfl (Or.inl ⟨_, rfl⟩) dX12_clauseOf_51
  rw [if_neg q4] at h
  by_cases q5 : x0 = 4
  · rw [if_pos q5] at h
    refine z_tableIn (off := 51) (tgt := 52) dX12_clauseOf_1 (by show ¬ x0.toInt < 0; rw [q5]; decide) (by show ¬ 5 < x0.toInt; rw [q5]; decide) (by rw [q5]; rfl) (by decide) ?_
    refine z_ldcS (i := 20) rfl dX12_clauseOf_52 ?_
    cases h
    exact z_aret rfl (Or.inl ⟨_, rfl⟩) dX12_clauseOf_54
  rw [if_neg q5] at h
  by_cases q6 : x0 = 5
  · rw [if_pos q6] at h
    refine z_tableIn (off := 54) (tgt := 55) dX12_clauseOf_1 (by show ¬ x0.toInt < 0; rw [q6]; decide) (by show ¬ 5 < x0.toInt; rw [q6]; decide) (by rw [q6]; rfl) (by decide) ?_
    refine z_ldcS (i := 9) rfl dX12_clauseOf_55 ?_
    cases h
    exact z_aret rfl (Or.inl ⟨_, rfl⟩) dX12_clauseOf_57
  rw [if_neg q6] at h
  have q1i : ¬ x0.toInt = 0 := zneI q1 (by decide)
  have q2i : ¬ x0.toInt = 1 := zneI q2 (by decide)
  have q3i : ¬ x0.toInt = 2 := zneI q3 (by decide)
  have q4i : ¬ x0.toInt = 3 := zneI q4 (by decide)
  have q5i : ¬ x0.toInt = 4 := zneI q5 (by decide)
  have q6i : ¬ x0.toInt = 5 := zneI q6 (by decide)
  refine z_tableOut (tgt := 58) dX12_clauseOf_1 (by show x0.toInt < 0 ∨ 5 < x0.toInt; omega) (by decide) ?_
  refine z_ldcS (i := 21) rfl dX12_clauseOf_58 ?_
  cases h
  exact z_aret rfl (Or.inl ⟨_, rfl⟩) dX12_clauseOf_60
set_option maxHeartbeats 4000000 in
set_option maxRecDepth 100000 in
theorem uX12_clauseOf (T : zT) (x0 : Int32) (S : zS)  (r : Nat) (h : fX12_clauseOf T x0 S = some r) : r < 27 := by
  unfold fX12_clauseOf at h
  (repeat' split at h) <;> first | (cases h; decide) | (obtain ⟨r4, hc4, h⟩ := zb1_elim h; cases h; exact uX12_ruleWord _ _ _ _ hc4)
/-! X12_extraOf -/
noncomputable def fX12_extraOf_b31 (T : zT) (s0 : Nat) (S : zS) : Option Nat :=
  some s0
noncomputable def fX12_extraOf (T : zT) (x0 : Int32) (S : zS) : Option Nat :=
  if x0 = 0 then fX12_extraOf_b31 T 22 S else if x0 = 1 then fX12_extraOf_b31 T 23 S else if x0 = 2 then fX12_extraOf_b31 T 24 S else fX12_extraOf_b31 T 7 S
set_option maxHeartbeats 4000000 in
set_option maxRecDepth 100000 in
theorem tX12_extraOf_b31 (T : zT) (s0 : Nat) (S : zS) (g0 : s0 < 27) {g : zG} (r : Nat) (h : fX12_extraOf_b31 T s0 S = some r)  : zg g 0 mX12_extraOf T 31 [none] [.ref (10002 + s0)] T S (some (.ref (10002 + r))) T S := by
  unfold fX12_extraOf_b31 at h
  cases h
  exact z_aret rfl (Or.inl ⟨_, rfl⟩) dX12_extraOf_31
set_option maxHeartbeats 4000000 in
set_option maxRecDepth 100000 in
theorem tX12_extraOf (T : zT) (x0 : Int32) (S : zS)  (r : Nat) (h : fX12_extraOf T x0 S = some r) : zGM 0 mX12_extraOf [.int x0] T S (some (.ref (10002 + r))) T S := by
  refine zGM_of zpnX12 rfl (Nat.le_of_ble_eq_true rfl) (fun g => ?_)
  show zg g 0 mX12_extraOf T 0 [some (.int x0)] [] T S (some (.ref (10002 + r))) T S
  unfold fX12_extraOf at h
  refine z_iload_n dX12_extraOf_0 rfl ?_
  refine z_if_ne (tgt := 9) dX12_extraOf_1 (by decide) (fun q1 => ?_) (fun q1 => ?_)
  · rw [if_neg q1] at h
    refine z_iload_n dX12_extraOf_9 rfl ?_
    refine z_iconst dX12_extraOf_10 cI_1 ?_
    refine z_icmp_ne (tgt := 19) dX12_extraOf_11 (by decide) (fun q2 => ?_) (fun q2 => ?_)
    · rw [if_neg q2] at h
      refine z_iload_n dX12_extraOf_19 rfl ?_
      refine z_iconst dX12_extraOf_20 cI_2 ?_
      refine z_icmp_ne (tgt := 29) dX12_extraOf_21 (by decide) (fun q3 => ?_) (fun q3 => ?_)
      · rw [if_neg q3] at h
        refine z_ldcS (i := 7) rfl dX12_extraOf_29 ?_
        exact z_mask [false] rfl (tX12_extraOf_b31 T 7 S (by decide) r h)
      · rw [if_pos q3] at h
        refine z_ldcS (i := 24) rfl dX12_extraOf_24 ?_
        refine z_goto (tgt := 31) dX12_extraOf_26 (by decide) ?_
        exact z_mask [false] rfl (tX12_extraOf_b31 T 24 S (by decide) r h)
    · rw [if_pos q2] at h
      refine z_ldcS (i := 23) rfl dX12_extraOf_14 ?_
      refine z_goto (tgt := 31) dX12_extraOf_16 (by decide) ?_
      exact z_mask [false] rfl (tX12_extraOf_b31 T 23 S (by decide) r h)
  · rw [if_pos q1] at h
    refine z_ldcS (i := 22) rfl dX12_extraOf_4 ?_
    refine z_goto (tgt := 31) dX12_extraOf_6 (by decide) ?_
    exact z_mask [false] rfl (tX12_extraOf_b31 T 22 S (by decide) r h)
set_option maxHeartbeats 4000000 in
set_option maxRecDepth 100000 in
theorem uX12_extraOf (T : zT) (x0 : Int32) (S : zS)  (r : Nat) (h : fX12_extraOf T x0 S = some r) : r < 27 := by
  unfold fX12_extraOf at h
  simp only [fX12_extraOf_b31] at h
  (repeat' split at h) <;> first | (cases h; decide) | (obtain ⟨r4, hc4, h⟩ := zb1_elim h; cases h; exact uX12_ruleWord _ _ _ _ hc4)
/-! X12_fails -/
noncomputable def fX12_fails_b23 (T : zT) (s0 : Int32) (s1 : Nat) (S : zS) : Option (Unit × zS) :=
  zlet (zI S s1 3 s0) fun S2 => some ((), S2)
noncomputable def fX12_fails (T : zT) (k0 : Nat) (x1 : Int32) (x2 : Int32) (S : zS) : Option (Unit × zS) :=
  if (S.1 k0 3) = 0 then fX12_fails_b23 T ((1 + (8 * x2)) + x1) k0 S else fX12_fails_b23 T (S.1 k0 3) k0 S
set_option maxHeartbeats 4000000 in
set_option maxRecDepth 100000 in
theorem tX12_fails_b23 (T : zT) (s0 : Int32) (s1 : Nat) (S : zS) (g1 : iX12 T s1) {g : zG} (r : (Unit × zS)) (h : fX12_fails_b23 T s0 s1 S = some r)  : zg g 0 mX12_fails T 23 [none, none, none] [.int s0, .ref s1] T S none T r.2 := by
  unfold fX12_fails_b23 at h
  refine z_putI zfX12_187 g1.1 dX12_fails_23 ?_
  obtain ⟨S2, eS2, h⟩ := zlet_elim h
  refine z_tS eS2 ?_
  cases h
  exact z_vret rfl dX12_fails_26
set_option maxHeartbeats 4000000 in
set_option maxRecDepth 100000 in
theorem tX12_fails (T : zT) (k0 : Nat) (x1 : Int32) (x2 : Int32) (S : zS) (h0 : iX12 T k0) (r : Unit × zS) (h : fX12_fails T k0 x1 x2 S = some r) : zGM 0 mX12_fails [.ref k0, .int x1, .int x2] T S none T r.2 := by
  refine zGM_of zpnX12 rfl (Nat.le_of_ble_eq_true rfl) (fun g => ?_)
  show zg g 0 mX12_fails T 0 [some (.ref k0), some (.int x1), some (.int x2)] [] T S none T r.2
  unfold fX12_fails at h
  refine z_aload_n dX12_fails_0 rfl ?_
  refine z_aload_n dX12_fails_1 rfl ?_
  refine z_gI (zF.x zfX12_187) h0.1 dX12_fails_2 ?_
  refine z_if_ne (tgt := 19) dX12_fails_5 (by decide) (fun q1 => ?_) (fun q1 => ?_)
  · rw [if_neg q1] at h
    refine z_aload_n dX12_fails_19 rfl ?_
    refine z_gI (zF.x zfX12_187) h0.1 dX12_fails_20 ?_
    exact z_mask [false, false, false] rfl (tX12_fails_b23 T (S.1 k0 3) k0 S h0 r h)
  · rw [if_pos q1] at h
    refine z_iconst dX12_fails_8 cI_1 ?_
    refine z_bipush dX12_fails_9 cB_8 ?_
    refine z_iload_n dX12_fails_11 rfl ?_
    refine z_imul dX12_fails_12 rfl ?_
    refine z_iadd dX12_fails_13 rfl ?_
    refine z_iload_n dX12_fails_14 rfl ?_
    refine z_iadd dX12_fails_15 rfl ?_
    refine z_goto (tgt := 23) dX12_fails_16 (by decide) ?_
    exact z_mask [false, false, false] rfl (tX12_fails_b23 T ((1 + (8 * x2)) + x1) k0 S h0 r h)
/-! X12_sign -/
noncomputable def fX12_sign_b28 (T : zT) (s0 : Int32) (S : zS) : Option Int32 :=
  some s0
noncomputable def fX12_sign (T : zT) (k0 : Nat) (S : zS) : Option Int32 :=
  if (S.1 k0 1) ≤ (S.1 k0 2) then fX12_sign_b28 T (-1) S else zgd (zin (S.1 k0 2) 400) (fX12_sign_b28 T ((S.1 (zr T k0 11) ((S.1 k0 2) : Int32).toNatClampNeg) &&& 255) S)
set_option maxHeartbeats 4000000 in
set_option maxRecDepth 100000 in
theorem tX12_sign_b28 (T : zT) (s0 : Int32) (S : zS)  {g : zG} (r : Int32) (h : fX12_sign_b28 T s0 S = some r)  : zg g 0 mX12_sign T 28 [none] [.int s0] T S (some (.int r)) T S := by
  unfold fX12_sign_b28 at h
  cases h
  exact z_iret rfl dX12_sign_28
set_option maxHeartbeats 4000000 in
set_option maxRecDepth 100000 in
theorem tX12_sign (T : zT) (k0 : Nat) (S : zS) (h0 : iX12 T k0) (r : Int32) (h : fX12_sign T k0 S = some r) : zGM 0 mX12_sign [.ref k0] T S (some (.int r)) T S := by
  refine zGM_of zpnX12 rfl (Nat.le_of_ble_eq_true rfl) (fun g => ?_)
  show zg g 0 mX12_sign T 0 [some (.ref k0)] [] T S (some (.int r)) T S
  unfold fX12_sign at h
  refine z_aload_n dX12_sign_0 rfl ?_
  refine z_gI (zF.x zfX12_190) h0.1 dX12_sign_1 ?_
  refine z_aload_n dX12_sign_4 rfl ?_
  refine z_gI (zF.x zfX12_147) h0.1 dX12_sign_5 ?_
  refine z_icmp_ge (tgt := 27) dX12_sign_8 (by decide) (fun q1 => ?_) (fun q1 => ?_)
  · rw [if_pos q1] at h
    refine z_iconst dX12_sign_27 cI_m1 ?_
    exact z_mask [false] rfl (tX12_sign_b28 T (-1) S  r h)
  · rw [if_neg q1] at h
    refine z_aload_n dX12_sign_11 rfl ?_
    refine z_gA (zF.x zfX12_9) h0.1 dX12_sign_12 ?_
    refine z_aload_n dX12_sign_15 rfl ?_
    refine z_gI (zF.x zfX12_190) h0.1 dX12_sign_16 ?_
    obtain ⟨q2, h⟩ := zgd_elim h
    refine z_bald h0.2.1 (zin_ok q2) dX12_sign_19 ?_
    refine z_sipush dX12_sign_20 cS_255 ?_
    refine z_iand dX12_sign_23 rfl ?_
    refine z_goto (tgt := 28) dX12_sign_24 (by decide) ?_
    exact z_mask [false] rfl (tX12_sign_b28 T ((S.1 (zr T k0 11) ((S.1 k0 2) : Int32).toNatClampNeg) &&& 255) S  r h)
/-! X12_entry -/
noncomputable def fX12_entry_b55 (T : zT)  (S : zS) : Option (Unit × zS) :=
  some ((), S)
noncomputable def fX12_entry (T : zT) (k0 : Nat) (x1 : Int32) (x2 : Int32) (S : zS) : Option (Unit × zS) :=
  if (S.1 k0 3) = 0 then zgd (zin ((300 * (S.1 k0 4)) + (S.1 k0 6)) 2400) (zlet (zI S (zr T k0 12) (((300 * (S.1 k0 4)) + (S.1 k0 6)) : Int32).toNatClampNeg x1) fun S3 => zgd (zin ((300 * (S3.1 k0 4)) + (S3.1 k0 6)) 2400) (zlet (zI S3 (zr T k0 13) (((300 * (S3.1 k0 4)) + (S3.1 k0 6)) : Int32).toNatClampNeg x2) fun S5 => zlet (zI S5 k0 6 ((S5.1 k0 6) + 1)) fun S6 => fX12_entry_b55 T  S6)) else fX12_entry_b55 T  S
set_option maxHeartbeats 4000000 in
set_option maxRecDepth 100000 in
theorem tX12_entry_b55 (T : zT)  (S : zS)  {g : zG} (r : (Unit × zS)) (h : fX12_entry_b55 T  S = some r)  : zg g 0 mX12_entry T 55 [none, none, none] [] T S none T r.2 := by
  unfold fX12_entry_b55 at h
  cases h
  exact z_vret rfl dX12_entry_55
set_option maxHeartbeats 4000000 in
set_option maxRecDepth 100000 in
theorem tX12_entry (T : zT) (k0 : Nat) (x1 : Int32) (x2 : Int32) (S : zS) (h0 : iX12 T k0) (r : Unit × zS) (h : fX12_entry T k0 x1 x2 S = some r) : zGM 0 mX12_entry [.ref k0, .int x1, .int x2] T S none T r.2 := by
  refine zGM_of zpnX12 rfl (Nat.le_of_ble_eq_true rfl) (fun g => ?_)
  show zg g 0 mX12_entry T 0 [some (.ref k0), some (.int x1), some (.int x2)] [] T S none T r.2
  unfold fX12_entry at h
  refine z_aload_n dX12_entry_0 rfl ?_
  refine z_gI (zF.x zfX12_187) h0.1 dX12_entry_1 ?_
  refine z_if_ne (tgt := 55) dX12_entry_4 (by decide) (fun q1 => ?_) (fun q1 => ?_)
  · rw [if_neg q1] at h
    exact z_mask [false, false, false] rfl (tX12_entry_b55 T  S  r h)
  · rw [if_pos q1] at h
    refine z_aload_n dX12_entry_7 rfl ?_
    refine z_gA (zF.x zfX12_13) h0.1 dX12_entry_8 ?_
    refine z_sipush dX12_entry_11 cS_300 ?_
    refine z_aload_n dX12_entry_14 rfl ?_
    refine z_gI (zF.x zfX12_153) h0.1 dX12_entry_15 ?_
    refine z_imul dX12_entry_18 rfl ?_
    refine z_aload_n dX12_entry_19 rfl ?_
    refine z_gI (zF.x zfX12_220) h0.1 dX12_entry_20 ?_
    refine z_iadd dX12_entry_23 rfl ?_
    refine z_iload_n dX12_entry_24 rfl ?_
    obtain ⟨q2, h⟩ := zgd_elim h
    refine z_iast h0.2.2.1 (zin_ok q2) dX12_entry_25 ?_
    obtain ⟨S3, eS3, h⟩ := zlet_elim h
    refine z_tS eS3 ?_
    refine z_aload_n dX12_entry_26 rfl ?_
    refine z_gA (zF.x zfX12_17) h0.1 dX12_entry_27 ?_
    refine z_sipush dX12_entry_30 cS_300 ?_
    refine z_aload_n dX12_entry_33 rfl ?_
    refine z_gI (zF.x zfX12_153) h0.1 dX12_entry_34 ?_
    refine z_imul dX12_entry_37 rfl ?_
    refine z_aload_n dX12_entry_38 rfl ?_
    refine z_gI (zF.x zfX12_220) h0.1 dX12_entry_39 ?_
    refine z_iadd dX12_entry_42 rfl ?_
    refine z_iload_n dX12_entry_43 rfl ?_
    obtain ⟨q4, h⟩ := zgd_elim h
    refine z_iast h0.2.2.2.1 (zin_ok q4) dX12_entry_44 ?_
    obtain ⟨S5, eS5, h⟩ := zlet_elim h
    refine z_tS eS5 ?_
    refine z_aload_n dX12_entry_45 rfl ?_
    refine z_dup dX12_entry_46 rfl ?_
    refine z_gI (zF.x zfX12_220) h0.1 dX12_entry_47 ?_
    refine z_iconst dX12_entry_50 cI_1 ?_
    refine z_iadd dX12_entry_51 rfl ?_
    refine z_putI zfX12_220 h0.1 dX12_entry_52 ?_
    obtain ⟨S6, eS6, h⟩ := zlet_elim h
    refine z_tS eS6 ?_
    exact z_mask [false, false, false] rfl (tX12_entry_b55 T  S6  r h)
/-! X12_top -/
noncomputable def fX12_top_b22 (T : zT) (s0 : Int32) (S : zS) : Option Int32 :=
  some s0
noncomputable def fX12_top (T : zT) (k0 : Nat) (S : zS) : Option Int32 :=
  if (S.1 k0 9) = 0 then fX12_top_b22 T (-1) S else zgd (zin ((S.1 k0 9) - 1) 402) (fX12_top_b22 T (S.1 (zr T k0 21) (((S.1 k0 9) - 1) : Int32).toNatClampNeg) S)
set_option maxHeartbeats 4000000 in
set_option maxRecDepth 100000 in
theorem tX12_top_b22 (T : zT) (s0 : Int32) (S : zS)  {g : zG} (r : Int32) (h : fX12_top_b22 T s0 S = some r)  : zg g 0 mX12_top T 22 [none] [.int s0] T S (some (.int r)) T S := by
  unfold fX12_top_b22 at h
  cases h
  exact z_iret rfl dX12_top_22
set_option maxHeartbeats 4000000 in
set_option maxRecDepth 100000 in
theorem tX12_top (T : zT) (k0 : Nat) (S : zS) (h0 : iX12 T k0) (r : Int32) (h : fX12_top T k0 S = some r) : zGM 0 mX12_top [.ref k0] T S (some (.int r)) T S := by
  refine zGM_of zpnX12 rfl (Nat.le_of_ble_eq_true rfl) (fun g => ?_)
  show zg g 0 mX12_top T 0 [some (.ref k0)] [] T S (some (.int r)) T S
  unfold fX12_top at h
  refine z_aload_n dX12_top_0 rfl ?_
  refine z_gI (zF.x zfX12_260) h0.1 dX12_top_1 ?_
  refine z_if_ne (tgt := 11) dX12_top_4 (by decide) (fun q1 => ?_) (fun q1 => ?_)
  · rw [if_neg q1] at h
    refine z_aload_n dX12_top_11 rfl ?_
    refine z_gA (zF.x zfX12_41) h0.1 dX12_top_12 ?_
    refine z_aload_n dX12_top_15 rfl ?_
    refine z_gI (zF.x zfX12_260) h0.1 dX12_top_16 ?_
    refine z_iconst dX12_top_19 cI_1 ?_
    refine z_isub dX12_top_20 rfl ?_
    obtain ⟨q2, h⟩ := zgd_elim h
    refine z_iald h0.2.2.2.2.2.2.2.2.2.2.2.1 (zin_ok q2) dX12_top_21 ?_
    exact z_mask [false] rfl (tX12_top_b22 T (S.1 (zr T k0 21) (((S.1 k0 9) - 1) : Int32).toNatClampNeg) S  r h)
  · rw [if_pos q1] at h
    refine z_iconst dX12_top_7 cI_m1 ?_
    refine z_goto (tgt := 22) dX12_top_8 (by decide) ?_
    exact z_mask [false] rfl (tX12_top_b22 T (-1) S  r h)
/-! X12_wasTold -/
noncomputable def fX12_wasTold_b39 (T : zT) (k0 : Nat) (x1 : Int32) (x2 : Int32) (x4 : Int32) (s0 : Int32) (S : zS) : Option ((Int32 × Int32) ⊕ Int32) :=
  zlet (x4 + 1) fun u3 => some (.inl (s0, u3))
noncomputable def fX12_wasTold_b34 (T : zT) (k0 : Nat) (x1 : Int32) (x2 : Int32) (x4 : Int32) (S : zS) : Option ((Int32 × Int32) ⊕ Int32) :=
  fX12_wasTold_b39 T k0 x1 x2 x4 1 S
noncomputable def fX12_wasTold_l5 (T : zT) (k0 : Nat) (x1 : Int32) (x2 : Int32) (S : zS) (x3 : Int32) (x4 : Int32) : Option ((Int32 × Int32) ⊕ Int32) :=
  if x1 ≤ x4 then some (.inr x3) else if x3 = 0 then zgd (zin ((24 * (S.1 k0 4)) + x4) 192) (if (S.1 (zr T k0 15) (((24 * (S.1 k0 4)) + x4) : Int32).toNatClampNeg) = x2 then fX12_wasTold_b34 T k0 x1 x2 x4 S else fX12_wasTold_b39 T k0 x1 x2 x4 0 S) else fX12_wasTold_b34 T k0 x1 x2 x4 S
noncomputable def fX12_wasTold (T : zT) (k0 : Nat) (x1 : Int32) (x2 : Int32) (S : zS) : Option Int32 :=
  zb1 (lp (fun a => fX12_wasTold_l5 T k0 x1 x2 S a.1 a.2) (0, 0)) fun e6 => zgd (zbl e6) (some e6)
set_option maxHeartbeats 4000000 in
set_option maxRecDepth 100000 in
theorem tX12_wasTold_b39 (T : zT) (k0 : Nat) (x1 : Int32) (x2 : Int32) (x4 : Int32) (s0 : Int32) (S : zS) (h0 : iX12 T k0) {g : zG} {v : Option Value} {S' : zS} (r : ((Int32 × Int32) ⊕ Int32)) (h : fX12_wasTold_b39 T k0 x1 x2 x4 s0 S = some r) (K1 : ∀ a : (Int32 × Int32), r = .inl a → zg g 0 mX12_wasTold T 5 [some (.ref k0), some (.int x1), some (.int x2), some (.int a.1), some (.int a.2)] [] T S v T S') (K2_0 : ∀ e : Int32, r = .inr e → zg g 0 mX12_wasTold T 46 [none, none, none, some (.int e), none] [] T S v T S') : zg g 0 mX12_wasTold T 39 [some (.ref k0), some (.int x1), some (.int x2), none, some (.int x4)] [.int s0] T S v T S' := by
  unfold fX12_wasTold_b39 at h
  refine z_istore_n dX12_wasTold_39 rfl (by decide) rfl ?_
  obtain ⟨u3, eu3, h⟩ := zlet_elim h
  refine z_iinc (r := u3) dX12_wasTold_40 rfl (by rw [eu3, cI_1]) rfl (by decide) rfl ?_
  refine z_goto (tgt := 5) dX12_wasTold_43 (by decide) ?_
  cases h
  exact z_mask [true, true, true, true, true] rfl (K1 _ rfl)
set_option maxHeartbeats 4000000 in
set_option maxRecDepth 100000 in
theorem tX12_wasTold_b34 (T : zT) (k0 : Nat) (x1 : Int32) (x2 : Int32) (x4 : Int32) (S : zS) (h0 : iX12 T k0) {g : zG} {v : Option Value} {S' : zS} (r : ((Int32 × Int32) ⊕ Int32)) (h : fX12_wasTold_b34 T k0 x1 x2 x4 S = some r) (K1 : ∀ a : (Int32 × Int32), r = .inl a → zg g 0 mX12_wasTold T 5 [some (.ref k0), some (.int x1), some (.int x2), some (.int a.1), some (.int a.2)] [] T S v T S') (K2_0 : ∀ e : Int32, r = .inr e → zg g 0 mX12_wasTold T 46 [none, none, none, some (.int e), none] [] T S v T S') : zg g 0 mX12_wasTold T 34 [some (.ref k0), some (.int x1), some (.int x2), none, some (.int x4)] [] T S v T S' := by
  unfold fX12_wasTold_b34 at h
  refine z_iconst dX12_wasTold_34 cI_1 ?_
  refine z_goto (tgt := 39) dX12_wasTold_35 (by decide) ?_
  exact z_mask [true, true, true, false, true] rfl (tX12_wasTold_b39 T k0 x1 x2 x4 1 S h0 r h K1 K2_0)
set_option maxHeartbeats 4000000 in
set_option maxRecDepth 100000 in
theorem tX12_wasTold_l5b (T : zT) (k0 : Nat) (x1 : Int32) (x2 : Int32) (S : zS) (x3 : Int32) (x4 : Int32) (h0 : iX12 T k0) {g : zG} {v : Option Value} {S' : zS} (r : (Int32 × Int32) ⊕ Int32) (h : fX12_wasTold_l5 T k0 x1 x2 S x3 x4 = some r) (K1 : ∀ a : (Int32 × Int32), r = .inl a → zg g 0 mX12_wasTold T 5 [some (.ref k0), some (.int x1), some (.int x2), some (.int a.1), some (.int a.2)] [] T S v T S') (K2_0 : ∀ e : Int32, r = .inr e → zg g 0 mX12_wasTold T 46 [none, none, none, some (.int e), none] [] T S v T S') : zg g 0 mX12_wasTold T 5 [some (.ref k0), some (.int x1), some (.int x2), some (.int x3), some (.int x4)] [] T S v T S' := by
  unfold fX12_wasTold_l5 at h
  refine z_iload dX12_wasTold_5 rfl ?_
  refine z_iload_n dX12_wasTold_7 rfl ?_
  refine z_icmp_ge (tgt := 46) dX12_wasTold_8 (by decide) (fun q1 => ?_) (fun q1 => ?_)
  · rw [if_pos q1] at h
    cases h
    exact z_mask [false, false, false, true, false] rfl (K2_0 _ rfl)
  · rw [if_neg q1] at h
    refine z_iload_n dX12_wasTold_11 rfl ?_
    refine z_if_ne (tgt := 34) dX12_wasTold_12 (by decide) (fun q2 => ?_) (fun q2 => ?_)
    · rw [if_neg q2] at h
      exact z_mask [true, true, true, false, true] rfl (tX12_wasTold_b34 T k0 x1 x2 x4 S h0 r h K1 K2_0)
    · rw [if_pos q2] at h
      refine z_aload_n dX12_wasTold_15 rfl ?_
      refine z_gA (zF.x zfX12_23) h0.1 dX12_wasTold_16 ?_
      refine z_bipush dX12_wasTold_19 cB_24 ?_
      refine z_aload_n dX12_wasTold_21 rfl ?_
      refine z_gI (zF.x zfX12_153) h0.1 dX12_wasTold_22 ?_
      refine z_imul dX12_wasTold_25 rfl ?_
      refine z_iload dX12_wasTold_26 rfl ?_
      refine z_iadd dX12_wasTold_28 rfl ?_
      obtain ⟨q4, h⟩ := zgd_elim h
      refine z_iald h0.2.2.2.2.2.1 (zin_ok q4) dX12_wasTold_29 ?_
      refine z_iload_n dX12_wasTold_30 rfl ?_
      refine z_icmp_ne (tgt := 38) dX12_wasTold_31 (by decide) (fun q5 => ?_) (fun q5 => ?_)
      · rw [if_neg q5] at h
        refine z_iconst dX12_wasTold_38 cI_0 ?_
        exact z_mask [true, true, true, false, true] rfl (tX12_wasTold_b39 T k0 x1 x2 x4 0 S h0 r h K1 K2_0)
      · rw [if_pos q5] at h
        exact z_mask [true, true, true, false, true] rfl (tX12_wasTold_b34 T k0 x1 x2 x4 S h0 r h K1 K2_0)
set_option maxHeartbeats 4000000 in
set_option maxRecDepth 100000 in
theorem tX12_wasTold_l5 (T : zT) (k0 : Nat) (x1 : Int32) (x2 : Int32) (S : zS) (h0 : iX12 T k0) {g : zG} {v : Option Value} {S' : zS} : ∀ (n : Nat) (a : (Int32 × Int32)) (e : Int32), lpn (fun a => fX12_wasTold_l5 T k0 x1 x2 S a.1 a.2) n a = some e → (∀ e1 : Int32, e = e1 → zg g 0 mX12_wasTold T 46 [none, none, none, some (.int e1), none] [] T S v T S') → zg g 0 mX12_wasTold T 5 [some (.ref k0), some (.int x1), some (.int x2), some (.int a.1), some (.int a.2)] [] T S v T S' := by
  intro n
  induction n with
  | zero =>
    intro a e h
    cases h
  | succ n ih =>
    intro a e h k0_
    rcases lpn_succ h with ⟨a1, ha_, hb_⟩ | ha_
    · exact tX12_wasTold_l5b T k0 x1 x2 S a.1 a.2 h0 _ ha_ (fun a2 q => by cases q; exact ih a1 e hb_ k0_) (fun e1 q => by cases q)
    · exact tX12_wasTold_l5b T k0 x1 x2 S a.1 a.2 h0 _ ha_ (fun a2 q => by cases q) (fun e1 q => by cases q; exact k0_ _ rfl)
set_option maxHeartbeats 4000000 in
set_option maxRecDepth 100000 in
theorem tX12_wasTold (T : zT) (k0 : Nat) (x1 : Int32) (x2 : Int32) (S : zS) (h0 : iX12 T k0) (r : Int32) (h : fX12_wasTold T k0 x1 x2 S = some r) : zGM 0 mX12_wasTold [.ref k0, .int x1, .int x2] T S (some (.int r)) T S := by
  refine zGM_of zpnX12 rfl (Nat.le_of_ble_eq_true rfl) (fun g => ?_)
  show zg g 0 mX12_wasTold T 0 [some (.ref k0), some (.int x1), some (.int x2), none, none] [] T S (some (.int r)) T S
  unfold fX12_wasTold at h
  refine z_iconst dX12_wasTold_0 cI_0 ?_
  refine z_istore_n dX12_wasTold_1 rfl (by decide) rfl ?_
  refine z_iconst dX12_wasTold_2 cI_0 ?_
  refine z_istore dX12_wasTold_3 rfl (by decide) rfl ?_
  obtain ⟨e6, hl8, h⟩ := zb1_elim h
  obtain ⟨nf9, hl8⟩ := lp_some hl8
  refine z_mask [true, true, true, true, true] rfl (tX12_wasTold_l5 T k0 x1 x2 S h0 nf9 (0, 0) e6 hl8 (fun e_ q => ?_))
  · cases q
    refine z_iload_n dX12_wasTold_46 rfl ?_
    obtain ⟨q7, h⟩ := zgd_elim h
    cases h
    exact z_zret rfl (zbl_ok q7) dX12_wasTold_47
/-! X12_over -/
noncomputable def fX12_over_l2 (T : zT) (k0 : Nat) (n0 : Nat) (x1 : Int32) (x2 : Int32) (S : zS) : Option ((Int32 × zS) ⊕ zS) :=
  if x1 ≤ x2 then some (.inr S) else zgd (zin (x1 + x2) n0) (zgd (zin x2 n0) (zlet (zI S k0 (x2 : Int32).toNatClampNeg (S.1 k0 ((x1 + x2) : Int32).toNatClampNeg)) fun S4 => zlet (x2 + 1) fun u5 => some (.inl (u5, S4))))
noncomputable def fX12_over (T : zT) (k0 : Nat) (n0 : Nat) (x1 : Int32) (S : zS) : Option (Unit × zS) :=
  zb1 (lp (fun a => fX12_over_l2 T k0 n0 x1 a.1 a.2) (0, S)) fun e6 => some ((), e6)
set_option maxHeartbeats 4000000 in
set_option maxRecDepth 100000 in
theorem tX12_over_l2b (T : zT) (k0 : Nat) (n0 : Nat) (x1 : Int32) (x2 : Int32) (S : zS) (h0 : zL T k0 20 n0) {g : zG} {v : Option Value} {S' : zS} (r : (Int32 × zS) ⊕ zS) (h : fX12_over_l2 T k0 n0 x1 x2 S = some r) (K1 : ∀ a : (Int32 × zS), r = .inl a → zg g 0 mX12_over T 2 [some (.ref k0), some (.int x1), some (.int a.1)] [] T a.2 v T S') (K2_0 : ∀ e : zS, r = .inr e → zg g 0 mX12_over T 21 [none, none, none] [] T e v T S') : zg g 0 mX12_over T 2 [some (.ref k0), some (.int x1), some (.int x2)] [] T S v T S' := by
  unfold fX12_over_l2 at h
  refine z_iload_n dX12_over_2 rfl ?_
  refine z_iload_n dX12_over_3 rfl ?_
  refine z_icmp_ge (tgt := 21) dX12_over_4 (by decide) (fun q1 => ?_) (fun q1 => ?_)
  · rw [if_pos q1] at h
    cases h
    exact z_mask [false, false, false] rfl (K2_0 _ rfl)
  · rw [if_neg q1] at h
    refine z_aload_n dX12_over_7 rfl ?_
    refine z_iload_n dX12_over_8 rfl ?_
    refine z_aload_n dX12_over_9 rfl ?_
    refine z_iload_n dX12_over_10 rfl ?_
    refine z_iload_n dX12_over_11 rfl ?_
    refine z_iadd dX12_over_12 rfl ?_
    obtain ⟨q2, h⟩ := zgd_elim h
    refine z_iald h0 (zin_ok q2) dX12_over_13 ?_
    obtain ⟨q3, h⟩ := zgd_elim h
    refine z_iast h0 (zin_ok q3) dX12_over_14 ?_
    obtain ⟨S4, eS4, h⟩ := zlet_elim h
    refine z_tS eS4 ?_
    obtain ⟨u5, eu5, h⟩ := zlet_elim h
    refine z_iinc (r := u5) dX12_over_15 rfl (by rw [eu5, cI_1]) rfl (by decide) rfl ?_
    refine z_goto (tgt := 2) dX12_over_18 (by decide) ?_
    cases h
    exact z_mask [true, true, true] rfl (K1 _ rfl)
set_option maxHeartbeats 4000000 in
set_option maxRecDepth 100000 in
theorem tX12_over_l2 (T : zT) (k0 : Nat) (n0 : Nat) (x1 : Int32) (h0 : zL T k0 20 n0) {g : zG} {v : Option Value} {S' : zS} : ∀ (n : Nat) (a : (Int32 × zS)) (e : zS), lpn (fun a => fX12_over_l2 T k0 n0 x1 a.1 a.2) n a = some e → (∀ e1 : zS, e = e1 → zg g 0 mX12_over T 21 [none, none, none] [] T e1 v T S') → zg g 0 mX12_over T 2 [some (.ref k0), some (.int x1), some (.int a.1)] [] T a.2 v T S' := by
  intro n
  induction n with
  | zero =>
    intro a e h
    cases h
  | succ n ih =>
    intro a e h k0_
    rcases lpn_succ h with ⟨a1, ha_, hb_⟩ | ha_
    · exact tX12_over_l2b T k0 n0 x1 a.1 a.2 h0 _ ha_ (fun a2 q => by cases q; exact ih a1 e hb_ k0_) (fun e1 q => by cases q)
    · exact tX12_over_l2b T k0 n0 x1 a.1 a.2 h0 _ ha_ (fun a2 q => by cases q) (fun e1 q => by cases q; exact k0_ _ rfl)
set_option maxHeartbeats 4000000 in
set_option maxRecDepth 100000 in
theorem tX12_over (T : zT) (k0 : Nat) (n0 : Nat) (x1 : Int32) (S : zS) (h0 : zL T k0 20 n0) (r : Unit × zS) (h : fX12_over T k0 n0 x1 S = some r) : zGM 0 mX12_over [.ref k0, .int x1] T S none T r.2 := by
  refine zGM_of zpnX12 rfl (Nat.le_of_ble_eq_true rfl) (fun g => ?_)
  show zg g 0 mX12_over T 0 [some (.ref k0), some (.int x1), none] [] T S none T r.2
  unfold fX12_over at h
  refine z_iconst dX12_over_0 cI_0 ?_
  refine z_istore_n dX12_over_1 rfl (by decide) rfl ?_
  obtain ⟨e6, hl7, h⟩ := zb1_elim h
  obtain ⟨nf8, hl7⟩ := lp_some hl7
  refine z_mask [true, true, true] rfl (tX12_over_l2 T k0 n0 x1 h0 nf8 (0, S) e6 hl7 (fun e_ q => ?_))
  · cases q
    cases h
    exact z_vret rfl dX12_over_21
/-! X12_truth -/
noncomputable def fX12_truth_b9 (T : zT) (s0 : Int64) (S : zS) : Option Int64 :=
  some s0
noncomputable def fX12_truth (T : zT) (x0 : Int32) (S : zS) : Option Int64 :=
  if x0 = 0 then fX12_truth_b9 T 0 S else fX12_truth_b9 T 1 S
set_option maxHeartbeats 4000000 in
set_option maxRecDepth 100000 in
theorem tX12_truth_b9 (T : zT) (s0 : Int64) (S : zS)  {g : zG} (r : Int64) (h : fX12_truth_b9 T s0 S = some r)  : zg g 0 mX12_truth T 9 [none] [.long s0] T S (some (.long r)) T S := by
  unfold fX12_truth_b9 at h
  cases h
  exact z_lret rfl dX12_truth_9
set_option maxHeartbeats 4000000 in
set_option maxRecDepth 100000 in
theorem tX12_truth (T : zT) (x0 : Int32) (S : zS)  (r : Int64) (h : fX12_truth T x0 S = some r) : zGM 0 mX12_truth [.int x0] T S (some (.long r)) T S := by
  refine zGM_of zpnX12 rfl (Nat.le_of_ble_eq_true rfl) (fun g => ?_)
  show zg g 0 mX12_truth T 0 [some (.int x0)] [] T S (some (.long r)) T S
  unfold fX12_truth at h
  refine z_iload_n dX12_truth_0 rfl ?_
  refine z_if_eq (tgt := 8) dX12_truth_1 (by decide) (fun q1 => ?_) (fun q1 => ?_)
  · rw [if_pos q1] at h
    refine z_lconst (r := 0) dX12_truth_8 rfl ?_
    exact z_mask [false] rfl (tX12_truth_b9 T 0 S  r h)
  · rw [if_neg q1] at h
    refine z_lconst (r := 1) dX12_truth_4 rfl ?_
    refine z_goto (tgt := 9) dX12_truth_5 (by decide) ?_
    exact z_mask [false] rfl (tX12_truth_b9 T 1 S  r h)
/-! X12_all -/
noncomputable def fX12_all_l4 (T : zT) (k0 : Nat) (S : zS) (x1 : Int32) (x2 : Int32) : Option ((Int32 × Int32) ⊕ Int32) :=
  if 8 ≤ x2 then some (.inr x1) else zgd (zin x2 16) (zlet (x1 ||| ((S.1 (zr T k0 22) (x2 : Int32).toNatClampNeg) <<< (x2 &&& 31))) fun u3 => zlet (x2 + 1) fun u4 => some (.inl (u3, u4)))
noncomputable def fX12_all (T : zT) (k0 : Nat) (S : zS) : Option Int32 :=
  zb1 (lp (fun a => fX12_all_l4 T k0 S a.1 a.2) (0, 0)) fun e5 => some e5
set_option maxHeartbeats 4000000 in
set_option maxRecDepth 100000 in
theorem tX12_all_l4b (T : zT) (k0 : Nat) (S : zS) (x1 : Int32) (x2 : Int32) (h0 : iX12 T k0) {g : zG} {v : Option Value} {S' : zS} (r : (Int32 × Int32) ⊕ Int32) (h : fX12_all_l4 T k0 S x1 x2 = some r) (K1 : ∀ a : (Int32 × Int32), r = .inl a → zg g 0 mX12_all T 4 [some (.ref k0), some (.int a.1), some (.int a.2)] [] T S v T S') (K2_0 : ∀ e : Int32, r = .inr e → zg g 0 mX12_all T 27 [none, some (.int e), none] [] T S v T S') : zg g 0 mX12_all T 4 [some (.ref k0), some (.int x1), some (.int x2)] [] T S v T S' := by
  unfold fX12_all_l4 at h
  refine z_iload_n dX12_all_4 rfl ?_
  refine z_bipush dX12_all_5 cB_8 ?_
  refine z_icmp_ge (tgt := 27) dX12_all_7 (by decide) (fun q1 => ?_) (fun q1 => ?_)
  · rw [if_pos q1] at h
    cases h
    exact z_mask [false, true, false] rfl (K2_0 _ rfl)
  · rw [if_neg q1] at h
    refine z_iload_n dX12_all_10 rfl ?_
    refine z_aload_n dX12_all_11 rfl ?_
    refine z_gA (zF.x zfX12_44) h0.1 dX12_all_12 ?_
    refine z_iload_n dX12_all_15 rfl ?_
    obtain ⟨q2, h⟩ := zgd_elim h
    refine z_iald h0.2.2.2.2.2.2.2.2.2.2.2.2.1 (zin_ok q2) dX12_all_16 ?_
    refine z_iload_n dX12_all_17 rfl ?_
    refine z_ishl dX12_all_18 rfl ?_
    refine z_ior dX12_all_19 rfl ?_
    obtain ⟨u3, eu3, h⟩ := zlet_elim h
    refine z_ti eu3 ?_
    refine z_istore_n dX12_all_20 rfl (by decide) rfl ?_
    obtain ⟨u4, eu4, h⟩ := zlet_elim h
    refine z_iinc (r := u4) dX12_all_21 rfl (by rw [eu4, cI_1]) rfl (by decide) rfl ?_
    refine z_goto (tgt := 4) dX12_all_24 (by decide) ?_
    cases h
    exact z_mask [true, true, true] rfl (K1 _ rfl)
set_option maxHeartbeats 4000000 in
set_option maxRecDepth 100000 in
theorem tX12_all_l4 (T : zT) (k0 : Nat) (S : zS) (h0 : iX12 T k0) {g : zG} {v : Option Value} {S' : zS} : ∀ (n : Nat) (a : (Int32 × Int32)) (e : Int32), lpn (fun a => fX12_all_l4 T k0 S a.1 a.2) n a = some e → (∀ e1 : Int32, e = e1 → zg g 0 mX12_all T 27 [none, some (.int e1), none] [] T S v T S') → zg g 0 mX12_all T 4 [some (.ref k0), some (.int a.1), some (.int a.2)] [] T S v T S' := by
  intro n
  induction n with
  | zero =>
    intro a e h
    cases h
  | succ n ih =>
    intro a e h k0_
    rcases lpn_succ h with ⟨a1, ha_, hb_⟩ | ha_
    · exact tX12_all_l4b T k0 S a.1 a.2 h0 _ ha_ (fun a2 q => by cases q; exact ih a1 e hb_ k0_) (fun e1 q => by cases q)
    · exact tX12_all_l4b T k0 S a.1 a.2 h0 _ ha_ (fun a2 q => by cases q) (fun e1 q => by cases q; exact k0_ _ rfl)
set_option maxHeartbeats 4000000 in
set_option maxRecDepth 100000 in
theorem tX12_all (T : zT) (k0 : Nat) (S : zS) (h0 : iX12 T k0) (r : Int32) (h : fX12_all T k0 S = some r) : zGM 0 mX12_all [.ref k0] T S (some (.int r)) T S := by
  refine zGM_of zpnX12 rfl (Nat.le_of_ble_eq_true rfl) (fun g => ?_)
  show zg g 0 mX12_all T 0 [some (.ref k0), none, none] [] T S (some (.int r)) T S
  unfold fX12_all at h
  refine z_iconst dX12_all_0 cI_0 ?_
  refine z_istore_n dX12_all_1 rfl (by decide) rfl ?_
  refine z_iconst dX12_all_2 cI_0 ?_
  refine z_istore_n dX12_all_3 rfl (by decide) rfl ?_
  obtain ⟨e5, hl6, h⟩ := zb1_elim h
  obtain ⟨nf7, hl6⟩ := lp_some hl6
  refine z_mask [true, true, true] rfl (tX12_all_l4 T k0 S h0 nf7 (0, 0) e5 hl6 (fun e_ q => ?_))
  · cases q
    refine z_iload_n dX12_all_27 rfl ?_
    cases h
    exact z_iret rfl dX12_all_28
/-! X12_clausesOf -/
noncomputable def fX12_clausesOf_b30 (T : zT) (k0 : Nat) (x1 : Int32) (x3 : Int32) (s0 : Int32) (s1 : Int32) (S : zS) : Option ((Int32 × Int32) ⊕ Int32) :=
  zlet (s1 + s0) fun u5 => zlet (x3 + 1) fun u6 => some (.inl (u5, u6))
noncomputable def fX12_clausesOf_l4 (T : zT) (k0 : Nat) (x1 : Int32) (S : zS) (x2 : Int32) (x3 : Int32) : Option ((Int32 × Int32) ⊕ Int32) :=
  zgd (zin 0 8) (if (S.1 (zr T k0 14) (0 : Int32).toNatClampNeg) ≤ x3 then some (.inr x2) else zgd (zin x3 192) (if (S.1 (zr T k0 15) (x3 : Int32).toNatClampNeg) = x1 then fX12_clausesOf_b30 T k0 x1 x3 1 x2 S else fX12_clausesOf_b30 T k0 x1 x3 0 x2 S))
noncomputable def fX12_clausesOf (T : zT) (k0 : Nat) (x1 : Int32) (S : zS) : Option Int32 :=
  zb1 (lp (fun a => fX12_clausesOf_l4 T k0 x1 S a.1 a.2) (0, 0)) fun e7 => some e7
set_option maxHeartbeats 4000000 in
set_option maxRecDepth 100000 in
theorem tX12_clausesOf_b30 (T : zT) (k0 : Nat) (x1 : Int32) (x3 : Int32) (s0 : Int32) (s1 : Int32) (S : zS) (h0 : iX12 T k0) {g : zG} {v : Option Value} {S' : zS} (r : ((Int32 × Int32) ⊕ Int32)) (h : fX12_clausesOf_b30 T k0 x1 x3 s0 s1 S = some r) (K1 : ∀ a : (Int32 × Int32), r = .inl a → zg g 0 mX12_clausesOf T 4 [some (.ref k0), some (.int x1), some (.int a.1), some (.int a.2)] [] T S v T S') (K2_0 : ∀ e : Int32, r = .inr e → zg g 0 mX12_clausesOf T 38 [none, none, some (.int e), none] [] T S v T S') : zg g 0 mX12_clausesOf T 30 [some (.ref k0), some (.int x1), none, some (.int x3)] [.int s0, .int s1] T S v T S' := by
  unfold fX12_clausesOf_b30 at h
  refine z_iadd dX12_clausesOf_30 rfl ?_
  obtain ⟨u5, eu5, h⟩ := zlet_elim h
  refine z_ti eu5 ?_
  refine z_istore_n dX12_clausesOf_31 rfl (by decide) rfl ?_
  obtain ⟨u6, eu6, h⟩ := zlet_elim h
  refine z_iinc (r := u6) dX12_clausesOf_32 rfl (by rw [eu6, cI_1]) rfl (by decide) rfl ?_
  refine z_goto (tgt := 4) dX12_clausesOf_35 (by decide) ?_
  cases h
  exact z_mask [true, true, true, true] rfl (K1 _ rfl)
set_option maxHeartbeats 4000000 in
set_option maxRecDepth 100000 in
theorem tX12_clausesOf_l4b (T : zT) (k0 : Nat) (x1 : Int32) (S : zS) (x2 : Int32) (x3 : Int32) (h0 : iX12 T k0) {g : zG} {v : Option Value} {S' : zS} (r : (Int32 × Int32) ⊕ Int32) (h : fX12_clausesOf_l4 T k0 x1 S x2 x3 = some r) (K1 : ∀ a : (Int32 × Int32), r = .inl a → zg g 0 mX12_clausesOf T 4 [some (.ref k0), some (.int x1), some (.int a.1), some (.int a.2)] [] T S v T S') (K2_0 : ∀ e : Int32, r = .inr e → zg g 0 mX12_clausesOf T 38 [none, none, some (.int e), none] [] T S v T S') : zg g 0 mX12_clausesOf T 4 [some (.ref k0), some (.int x1), some (.int x2), some (.int x3)] [] T S v T S' := by
  unfold fX12_clausesOf_l4 at h
  refine z_iload_n dX12_clausesOf_4 rfl ?_
  refine z_aload_n dX12_clausesOf_5 rfl ?_
  refine z_gA (zF.x zfX12_20) h0.1 dX12_clausesOf_6 ?_
  refine z_iconst dX12_clausesOf_9 cI_0 ?_
  obtain ⟨q1, h⟩ := zgd_elim h
  refine z_iald h0.2.2.2.2.1 (zin_ok q1) dX12_clausesOf_10 ?_
  refine z_icmp_ge (tgt := 38) dX12_clausesOf_11 (by decide) (fun q2 => ?_) (fun q2 => ?_)
  · rw [if_pos q2] at h
    cases h
    exact z_mask [false, false, true, false] rfl (K2_0 _ rfl)
  · rw [if_neg q2] at h
    refine z_iload_n dX12_clausesOf_14 rfl ?_
    refine z_aload_n dX12_clausesOf_15 rfl ?_
    refine z_gA (zF.x zfX12_23) h0.1 dX12_clausesOf_16 ?_
    refine z_iload_n dX12_clausesOf_19 rfl ?_
    obtain ⟨q3, h⟩ := zgd_elim h
    refine z_iald h0.2.2.2.2.2.1 (zin_ok q3) dX12_clausesOf_20 ?_
    refine z_iload_n dX12_clausesOf_21 rfl ?_
    refine z_icmp_ne (tgt := 29) dX12_clausesOf_22 (by decide) (fun q4 => ?_) (fun q4 => ?_)
    · rw [if_neg q4] at h
      refine z_iconst dX12_clausesOf_29 cI_0 ?_
      exact z_mask [true, true, false, true] rfl (tX12_clausesOf_b30 T k0 x1 x3 0 x2 S h0 r h K1 K2_0)
    · rw [if_pos q4] at h
      refine z_iconst dX12_clausesOf_25 cI_1 ?_
      refine z_goto (tgt := 30) dX12_clausesOf_26 (by decide) ?_
      exact z_mask [true, true, false, true] rfl (tX12_clausesOf_b30 T k0 x1 x3 1 x2 S h0 r h K1 K2_0)
set_option maxHeartbeats 4000000 in
set_option maxRecDepth 100000 in
theorem tX12_clausesOf_l4 (T : zT) (k0 : Nat) (x1 : Int32) (S : zS) (h0 : iX12 T k0) {g : zG} {v : Option Value} {S' : zS} : ∀ (n : Nat) (a : (Int32 × Int32)) (e : Int32), lpn (fun a => fX12_clausesOf_l4 T k0 x1 S a.1 a.2) n a = some e → (∀ e1 : Int32, e = e1 → zg g 0 mX12_clausesOf T 38 [none, none, some (.int e1), none] [] T S v T S') → zg g 0 mX12_clausesOf T 4 [some (.ref k0), some (.int x1), some (.int a.1), some (.int a.2)] [] T S v T S' := by
  intro n
  induction n with
  | zero =>
    intro a e h
    cases h
  | succ n ih =>
    intro a e h k0_
    rcases lpn_succ h with ⟨a1, ha_, hb_⟩ | ha_
    · exact tX12_clausesOf_l4b T k0 x1 S a.1 a.2 h0 _ ha_ (fun a2 q => by cases q; exact ih a1 e hb_ k0_) (fun e1 q => by cases q)
    · exact tX12_clausesOf_l4b T k0 x1 S a.1 a.2 h0 _ ha_ (fun a2 q => by cases q) (fun e1 q => by cases q; exact k0_ _ rfl)
set_option maxHeartbeats 4000000 in
set_option maxRecDepth 100000 in
theorem tX12_clausesOf (T : zT) (k0 : Nat) (x1 : Int32) (S : zS) (h0 : iX12 T k0) (r : Int32) (h : fX12_clausesOf T k0 x1 S = some r) : zGM 0 mX12_clausesOf [.ref k0, .int x1] T S (some (.int r)) T S := by
  refine zGM_of zpnX12 rfl (Nat.le_of_ble_eq_true rfl) (fun g => ?_)
  show zg g 0 mX12_clausesOf T 0 [some (.ref k0), some (.int x1), none, none] [] T S (some (.int r)) T S
  unfold fX12_clausesOf at h
  refine z_iconst dX12_clausesOf_0 cI_0 ?_
  refine z_istore_n dX12_clausesOf_1 rfl (by decide) rfl ?_
  refine z_iconst dX12_clausesOf_2 cI_0 ?_
  refine z_istore_n dX12_clausesOf_3 rfl (by decide) rfl ?_
  obtain ⟨e7, hl8, h⟩ := zb1_elim h
  obtain ⟨nf9, hl8⟩ := lp_some hl8
  refine z_mask [true, true, true, true] rfl (tX12_clausesOf_l4 T k0 x1 S h0 nf9 (0, 0) e7 hl8 (fun e_ q => ?_))
  · cases q
    refine z_iload_n dX12_clausesOf_38 rfl ?_
    cases h
    exact z_iret rfl dX12_clausesOf_39
/-! X12_owedAtFirst -/
noncomputable def fX12_owedAtFirst (T : zT) (k0 : Nat) (x1 : Int32) (x2 : Int32) (S : zS) : Option Int32 :=
  zgd (zin x1 16) (zgd (zin x1 16) (some ((S.1 (zr T k0 23) (x1 : Int32).toNatClampNeg) + ((S.1 (zr T k0 24) (x1 : Int32).toNatClampNeg) * x2))))
set_option maxHeartbeats 4000000 in
set_option maxRecDepth 100000 in
theorem tX12_owedAtFirst (T : zT) (k0 : Nat) (x1 : Int32) (x2 : Int32) (S : zS) (h0 : iX12 T k0) (r : Int32) (h : fX12_owedAtFirst T k0 x1 x2 S = some r) : zGM 0 mX12_owedAtFirst [.ref k0, .int x1, .int x2] T S (some (.int r)) T S := by
  refine zGM_of zpnX12 rfl (Nat.le_of_ble_eq_true rfl) (fun g => ?_)
  show zg g 0 mX12_owedAtFirst T 0 [some (.ref k0), some (.int x1), some (.int x2)] [] T S (some (.int r)) T S
  unfold fX12_owedAtFirst at h
  refine z_aload_n dX12_owedAtFirst_0 rfl ?_
  refine z_gA (zF.x zfX12_47) h0.1 dX12_owedAtFirst_1 ?_
  refine z_iload_n dX12_owedAtFirst_4 rfl ?_
  obtain ⟨q1, h⟩ := zgd_elim h
  refine z_iald h0.2.2.2.2.2.2.2.2.2.2.2.2.2.1 (zin_ok q1) dX12_owedAtFirst_5 ?_
  refine z_aload_n dX12_owedAtFirst_6 rfl ?_
  refine z_gA (zF.x zfX12_50) h0.1 dX12_owedAtFirst_7 ?_
  refine z_iload_n dX12_owedAtFirst_10 rfl ?_
  obtain ⟨q2, h⟩ := zgd_elim h
  refine z_iald h0.2.2.2.2.2.2.2.2.2.2.2.2.2.2.1 (zin_ok q2) dX12_owedAtFirst_11 ?_
  refine z_iload_n dX12_owedAtFirst_12 rfl ?_
  refine z_imul dX12_owedAtFirst_13 rfl ?_
  refine z_iadd dX12_owedAtFirst_14 rfl ?_
  cases h
  exact z_iret rfl dX12_owedAtFirst_15
/-! X12_begins -/
noncomputable def fX12_begins_b28 (T : zT) (k0 : Nat) (x1 : Int32) (s0 : Int32) (s1 : Int32) (s2 : Nat) (m2 : Nat) (S : zS) : Option ((Int32 × zS) ⊕ zS) :=
  zgd (zin s1 m2) (zlet (zI S s2 (s1 : Int32).toNatClampNeg s0) fun S5 => zgd (zin x1 16) (zgd (zin x1 8) (zlet (zI S5 (zr T k0 41) (x1 : Int32).toNatClampNeg (S5.1 (zr T k0 23) (x1 : Int32).toNatClampNeg)) fun S8 => zgd (zin x1 16) (zgd (zin x1 8) (zlet (zI S8 (zr T k0 42) (x1 : Int32).toNatClampNeg (S8.1 (zr T k0 24) (x1 : Int32).toNatClampNeg)) fun S11 => zgd (zin x1 8) (zlet (zI S11 (zr T k0 43) (x1 : Int32).toNatClampNeg 0) fun S13 => zgd (zin x1 8) (zlet (zI S13 (zr T k0 46) (x1 : Int32).toNatClampNeg (vp_nar .boolean 0)) fun S15 => zlet (x1 + 1) fun u16 => some (.inl (u16, S15)))))))))
noncomputable def fX12_begins_l2 (T : zT) (k0 : Nat) (x1 : Int32) (S : zS) : Option ((Int32 × zS) ⊕ zS) :=
  if 8 ≤ x1 then some (.inr S) else zgd (zin x1 16) (if (S.1 (zr T k0 22) (x1 : Int32).toNatClampNeg) = 1 then fX12_begins_b28 T k0 x1 0 x1 (zr T k0 40) 8 S else fX12_begins_b28 T k0 x1 2 x1 (zr T k0 40) 8 S)
noncomputable def fX12_begins (T : zT) (k0 : Nat) (S : zS) : Option (Unit × zS) :=
  zb1 (lp (fun a => fX12_begins_l2 T k0 a.1 a.2) (0, S)) fun e17 => zgd (zin 0 2) (zlet (zI e17 k0 48 (e17.1 (zr T k0 32) (0 : Int32).toNatClampNeg)) fun S19 => zlet (zI S19 k0 47 0) fun S20 => zlet (zI S20 k0 49 (-1)) fun S21 => zlet (zI S21 k0 50 (-1)) fun S22 => zlet (zI S22 k0 51 0) fun S23 => some ((), S23))
set_option maxHeartbeats 4000000 in
set_option maxRecDepth 100000 in
theorem tX12_begins_b28 (T : zT) (k0 : Nat) (x1 : Int32) (s0 : Int32) (s1 : Int32) (s2 : Nat) (m2 : Nat) (S : zS) (h0 : iX12 T k0) (g2 : zL T s2 20 m2) {g : zG} {v : Option Value} {S' : zS} (r : ((Int32 × zS) ⊕ zS)) (h : fX12_begins_b28 T k0 x1 s0 s1 s2 m2 S = some r) (K1 : ∀ a : (Int32 × zS), r = .inl a → zg g 0 mX12_begins T 2 [some (.ref k0), some (.int a.1)] [] T a.2 v T S') (K2_0 : ∀ e : zS, r = .inr e → zg g 0 mX12_begins T 73 [some (.ref k0), none] [] T e v T S') : zg g 0 mX12_begins T 28 [some (.ref k0), some (.int x1)] [.int s0, .int s1, .ref s2] T S v T S' := by
  unfold fX12_begins_b28 at h
  obtain ⟨q4, h⟩ := zgd_elim h
  refine z_iast g2 (zin_ok q4) dX12_begins_28 ?_
  obtain ⟨S5, eS5, h⟩ := zlet_elim h
  refine z_tS eS5 ?_
  refine z_aload_n dX12_begins_29 rfl ?_
  refine z_gA (zF.x zfX12_99) h0.1 dX12_begins_30 ?_
  refine z_iload_n dX12_begins_33 rfl ?_
  refine z_aload_n dX12_begins_34 rfl ?_
  refine z_gA (zF.x zfX12_47) h0.1 dX12_begins_35 ?_
  refine z_iload_n dX12_begins_38 rfl ?_
  obtain ⟨q6, h⟩ := zgd_elim h
  refine z_iald h0.2.2.2.2.2.2.2.2.2.2.2.2.2.1 (zin_ok q6) dX12_begins_39 ?_
  obtain ⟨q7, h⟩ := zgd_elim h
  refine z_iast h0.2.2.2.2.2.2.2.2.2.2.2.2.2.2.2.2.2.2.2.2.2.2.2.2.2.2.2.2.2.2.1 (zin_ok q7) dX12_begins_40 ?_
  obtain ⟨S8, eS8, h⟩ := zlet_elim h
  refine z_tS eS8 ?_
  refine z_aload_n dX12_begins_41 rfl ?_
  refine z_gA (zF.x zfX12_102) h0.1 dX12_begins_42 ?_
  refine z_iload_n dX12_begins_45 rfl ?_
  refine z_aload_n dX12_begins_46 rfl ?_
  refine z_gA (zF.x zfX12_50) h0.1 dX12_begins_47 ?_
  refine z_iload_n dX12_begins_50 rfl ?_
  obtain ⟨q9, h⟩ := zgd_elim h
  refine z_iald h0.2.2.2.2.2.2.2.2.2.2.2.2.2.2.1 (zin_ok q9) dX12_begins_51 ?_
  obtain ⟨q10, h⟩ := zgd_elim h
  refine z_iast h0.2.2.2.2.2.2.2.2.2.2.2.2.2.2.2.2.2.2.2.2.2.2.2.2.2.2.2.2.2.2.2.1 (zin_ok q10) dX12_begins_52 ?_
  obtain ⟨S11, eS11, h⟩ := zlet_elim h
  refine z_tS eS11 ?_
  refine z_aload_n dX12_begins_53 rfl ?_
  refine z_gA (zF.x zfX12_105) h0.1 dX12_begins_54 ?_
  refine z_iload_n dX12_begins_57 rfl ?_
  refine z_iconst dX12_begins_58 cI_0 ?_
  obtain ⟨q12, h⟩ := zgd_elim h
  refine z_iast h0.2.2.2.2.2.2.2.2.2.2.2.2.2.2.2.2.2.2.2.2.2.2.2.2.2.2.2.2.2.2.2.2.1 (zin_ok q12) dX12_begins_59 ?_
  obtain ⟨S13, eS13, h⟩ := zlet_elim h
  refine z_tS eS13 ?_
  refine z_aload_n dX12_begins_60 rfl ?_
  refine z_gA (zF.x zfX12_114) h0.1 dX12_begins_61 ?_
  refine z_iload_n dX12_begins_64 rfl ?_
  refine z_iconst dX12_begins_65 cI_0 ?_
  obtain ⟨q14, h⟩ := zgd_elim h
  refine z_zast h0.2.2.2.2.2.2.2.2.2.2.2.2.2.2.2.2.2.2.2.2.2.2.2.2.2.2.2.2.2.2.2.2.2.2.2.1 (zin_ok q14) dX12_begins_66 ?_
  obtain ⟨S15, eS15, h⟩ := zlet_elim h
  refine z_tS eS15 ?_
  obtain ⟨u16, eu16, h⟩ := zlet_elim h
  refine z_iinc (r := u16) dX12_begins_67 rfl (by rw [eu16, cI_1]) rfl (by decide) rfl ?_
  refine z_goto (tgt := 2) dX12_begins_70 (by decide) ?_
  cases h
  exact z_mask [true, true] rfl (K1 _ rfl)
set_option maxHeartbeats 4000000 in
set_option maxRecDepth 100000 in
theorem tX12_begins_l2b (T : zT) (k0 : Nat) (x1 : Int32) (S : zS) (h0 : iX12 T k0) {g : zG} {v : Option Value} {S' : zS} (r : (Int32 × zS) ⊕ zS) (h : fX12_begins_l2 T k0 x1 S = some r) (K1 : ∀ a : (Int32 × zS), r = .inl a → zg g 0 mX12_begins T 2 [some (.ref k0), some (.int a.1)] [] T a.2 v T S') (K2_0 : ∀ e : zS, r = .inr e → zg g 0 mX12_begins T 73 [some (.ref k0), none] [] T e v T S') : zg g 0 mX12_begins T 2 [some (.ref k0), some (.int x1)] [] T S v T S' := by
  unfold fX12_begins_l2 at h
  refine z_iload_n dX12_begins_2 rfl ?_
  refine z_bipush dX12_begins_3 cB_8 ?_
  refine z_icmp_ge (tgt := 73) dX12_begins_5 (by decide) (fun q1 => ?_) (fun q1 => ?_)
  · rw [if_pos q1] at h
    cases h
    exact z_mask [true, false] rfl (K2_0 _ rfl)
  · rw [if_neg q1] at h
    refine z_aload_n dX12_begins_8 rfl ?_
    refine z_gA (zF.x zfX12_96) h0.1 dX12_begins_9 ?_
    refine z_iload_n dX12_begins_12 rfl ?_
    refine z_aload_n dX12_begins_13 rfl ?_
    refine z_gA (zF.x zfX12_44) h0.1 dX12_begins_14 ?_
    refine z_iload_n dX12_begins_17 rfl ?_
    obtain ⟨q2, h⟩ := zgd_elim h
    refine z_iald h0.2.2.2.2.2.2.2.2.2.2.2.2.1 (zin_ok q2) dX12_begins_18 ?_
    refine z_iconst dX12_begins_19 cI_1 ?_
    refine z_icmp_ne (tgt := 27) dX12_begins_20 (by decide) (fun q3 => ?_) (fun q3 => ?_)
    · rw [if_neg q3] at h
      refine z_iconst dX12_begins_27 cI_2 ?_
      exact z_mask [true, true] rfl (tX12_begins_b28 T k0 x1 2 x1 (zr T k0 40) 8 S h0 h0.2.2.2.2.2.2.2.2.2.2.2.2.2.2.2.2.2.2.2.2.2.2.2.2.2.2.2.2.2.1 r h K1 K2_0)
    · rw [if_pos q3] at h
      refine z_iconst dX12_begins_23 cI_0 ?_
      refine z_goto (tgt := 28) dX12_begins_24 (by decide) ?_
      exact z_mask [true, true] rfl (tX12_begins_b28 T k0 x1 0 x1 (zr T k0 40) 8 S h0 h0.2.2.2.2.2.2.2.2.2.2.2.2.2.2.2.2.2.2.2.2.2.2.2.2.2.2.2.2.2.1 r h K1 K2_0)
set_option maxHeartbeats 4000000 in
set_option maxRecDepth 100000 in
theorem tX12_begins_l2 (T : zT) (k0 : Nat) (h0 : iX12 T k0) {g : zG} {v : Option Value} {S' : zS} : ∀ (n : Nat) (a : (Int32 × zS)) (e : zS), lpn (fun a => fX12_begins_l2 T k0 a.1 a.2) n a = some e → (∀ e1 : zS, e = e1 → zg g 0 mX12_begins T 73 [some (.ref k0), none] [] T e1 v T S') → zg g 0 mX12_begins T 2 [some (.ref k0), some (.int a.1)] [] T a.2 v T S' := by
  intro n
  induction n with
  | zero =>
    intro a e h
    cases h
  | succ n ih =>
    intro a e h k0_
    rcases lpn_succ h with ⟨a1, ha_, hb_⟩ | ha_
    · exact tX12_begins_l2b T k0 a.1 a.2 h0 _ ha_ (fun a2 q => by cases q; exact ih a1 e hb_ k0_) (fun e1 q => by cases q)
    · exact tX12_begins_l2b T k0 a.1 a.2 h0 _ ha_ (fun a2 q => by cases q) (fun e1 q => by cases q; exact k0_ _ rfl)
set_option maxHeartbeats 4000000 in
set_option maxRecDepth 100000 in
theorem tX12_begins (T : zT) (k0 : Nat) (S : zS) (h0 : iX12 T k0) (r : Unit × zS) (h : fX12_begins T k0 S = some r) : zGM 0 mX12_begins [.ref k0] T S none T r.2 := by
  refine zGM_of zpnX12 rfl (Nat.le_of_ble_eq_true rfl) (fun g => ?_)
  show zg g 0 mX12_begins T 0 [some (.ref k0), none] [] T S none T r.2
  unfold fX12_begins at h
  refine z_iconst dX12_begins_0 cI_0 ?_
  refine z_istore_n dX12_begins_1 rfl (by decide) rfl ?_
  obtain ⟨e17, hl24, h⟩ := zb1_elim h
  obtain ⟨nf25, hl24⟩ := lp_some hl24
  refine z_mask [true, true] rfl (tX12_begins_l2 T k0 h0 nf25 (0, S) e17 hl24 (fun e_ q => ?_))
  · cases q
    refine z_aload_n dX12_begins_73 rfl ?_
    refine z_aload_n dX12_begins_74 rfl ?_
    refine z_gA (zF.x zfX12_74) h0.1 dX12_begins_75 ?_
    refine z_iconst dX12_begins_78 cI_0 ?_
    obtain ⟨q18, h⟩ := zgd_elim h
    refine z_iald h0.2.2.2.2.2.2.2.2.2.2.2.2.2.2.2.2.2.2.2.2.2.2.1 (zin_ok q18) dX12_begins_79 ?_
    refine z_putI zfX12_401 h0.1 dX12_begins_80 ?_
    obtain ⟨S19, eS19, h⟩ := zlet_elim h
    refine z_tS eS19 ?_
    refine z_aload_n dX12_begins_83 rfl ?_
    refine z_iconst dX12_begins_84 cI_0 ?_
    refine z_putZ zfX12_404 (Or.inl rfl) h0.1 dX12_begins_85 ?_
    obtain ⟨S20, eS20, h⟩ := zlet_elim h
    refine z_tS eS20 ?_
    refine z_aload_n dX12_begins_88 rfl ?_
    refine z_iconst dX12_begins_89 cI_m1 ?_
    refine z_putI zfX12_408 h0.1 dX12_begins_90 ?_
    obtain ⟨S21, eS21, h⟩ := zlet_elim h
    refine z_tS eS21 ?_
    refine z_aload_n dX12_begins_93 rfl ?_
    refine z_iconst dX12_begins_94 cI_m1 ?_
    refine z_putI zfX12_411 h0.1 dX12_begins_95 ?_
    obtain ⟨S22, eS22, h⟩ := zlet_elim h
    refine z_tS eS22 ?_
    refine z_aload_n dX12_begins_98 rfl ?_
    refine z_iconst dX12_begins_99 cI_0 ?_
    refine z_putI zfX12_414 h0.1 dX12_begins_100 ?_
    obtain ⟨S23, eS23, h⟩ := zlet_elim h
    refine z_tS eS23 ?_
    cases h
    exact z_vret rfl dX12_begins_103
/-! X12_placed -/
noncomputable def fX12_placed_b38 (T : zT) (k0 : Nat) (x1 : Int32) (x3 : Int32) (s0 : Int32) (s1 : Int32) (S : zS) : Option ((Int32 × Int32) ⊕ Int32) :=
  zlet (s1 ||| s0) fun u4 => zlet (x3 + 1) fun u5 => some (.inl (u4, u5))
noncomputable def fX12_placed_b37 (T : zT) (k0 : Nat) (x1 : Int32) (x3 : Int32) (s0 : Int32) (S : zS) : Option ((Int32 × Int32) ⊕ Int32) :=
  fX12_placed_b38 T k0 x1 x3 0 s0 S
noncomputable def fX12_placed_l4 (T : zT) (k0 : Nat) (x1 : Int32) (S : zS) (x2 : Int32) (x3 : Int32) : Option ((Int32 × Int32) ⊕ Int32) :=
  if 8 ≤ x3 then some (.inr x2) else zgd (zin x3 8) (if (S.1 (zr T k0 40) (x3 : Int32).toNatClampNeg) = x1 then zgd (zin x3 16) (if (S.1 (zr T k0 22) (x3 : Int32).toNatClampNeg) = 1 then fX12_placed_b38 T k0 x1 x3 (1 <<< (x3 &&& 31)) x2 S else fX12_placed_b37 T k0 x1 x3 x2 S) else fX12_placed_b37 T k0 x1 x3 x2 S)
noncomputable def fX12_placed (T : zT) (k0 : Nat) (x1 : Int32) (S : zS) : Option Int32 :=
  zb1 (lp (fun a => fX12_placed_l4 T k0 x1 S a.1 a.2) (0, 0)) fun e8 => some e8
set_option maxHeartbeats 4000000 in
set_option maxRecDepth 100000 in
theorem tX12_placed_b38 (T : zT) (k0 : Nat) (x1 : Int32) (x3 : Int32) (s0 : Int32) (s1 : Int32) (S : zS) (h0 : iX12 T k0) {g : zG} {v : Option Value} {S' : zS} (r : ((Int32 × Int32) ⊕ Int32)) (h : fX12_placed_b38 T k0 x1 x3 s0 s1 S = some r) (K1 : ∀ a : (Int32 × Int32), r = .inl a → zg g 0 mX12_placed T 4 [some (.ref k0), some (.int x1), some (.int a.1), some (.int a.2)] [] T S v T S') (K2_0 : ∀ e : Int32, r = .inr e → zg g 0 mX12_placed T 46 [none, none, some (.int e), none] [] T S v T S') : zg g 0 mX12_placed T 38 [some (.ref k0), some (.int x1), none, some (.int x3)] [.int s0, .int s1] T S v T S' := by
  unfold fX12_placed_b38 at h
  refine z_ior dX12_placed_38 rfl ?_
  obtain ⟨u4, eu4, h⟩ := zlet_elim h
  refine z_ti eu4 ?_
  refine z_istore_n dX12_placed_39 rfl (by decide) rfl ?_
  obtain ⟨u5, eu5, h⟩ := zlet_elim h
  refine z_iinc (r := u5) dX12_placed_40 rfl (by rw [eu5, cI_1]) rfl (by decide) rfl ?_
  refine z_goto (tgt := 4) dX12_placed_43 (by decide) ?_
  cases h
  exact z_mask [true, true, true, true] rfl (K1 _ rfl)
set_option maxHeartbeats 4000000 in
set_option maxRecDepth 100000 in
theorem tX12_placed_b37 (T : zT) (k0 : Nat) (x1 : Int32) (x3 : Int32) (s0 : Int32) (S : zS) (h0 : iX12 T k0) {g : zG} {v : Option Value} {S' : zS} (r : ((Int32 × Int32) ⊕ Int32)) (h : fX12_placed_b37 T k0 x1 x3 s0 S = some r) (K1 : ∀ a : (Int32 × Int32), r = .inl a → zg g 0 mX12_placed T 4 [some (.ref k0), some (.int x1), some (.int a.1), some (.int a.2)] [] T S v T S') (K2_0 : ∀ e : Int32, r = .inr e → zg g 0 mX12_placed T 46 [none, none, some (.int e), none] [] T S v T S') : zg g 0 mX12_placed T 37 [some (.ref k0), some (.int x1), none, some (.int x3)] [.int s0] T S v T S' := by
  unfold fX12_placed_b37 at h
  refine z_iconst dX12_placed_37 cI_0 ?_
  exact z_mask [true, true, false, true] rfl (tX12_placed_b38 T k0 x1 x3 0 s0 S h0 r h K1 K2_0)
set_option maxHeartbeats 4000000 in
set_option maxRecDepth 100000 in
theorem tX12_placed_l4b (T : zT) (k0 : Nat) (x1 : Int32) (S : zS) (x2 : Int32) (x3 : Int32) (h0 : iX12 T k0) {g : zG} {v : Option Value} {S' : zS} (r : (Int32 × Int32) ⊕ Int32) (h : fX12_placed_l4 T k0 x1 S x2 x3 = some r) (K1 : ∀ a : (Int32 × Int32), r = .inl a → zg g 0 mX12_placed T 4 [some (.ref k0), some (.int x1), some (.int a.1), some (.int a.2)] [] T S v T S') (K2_0 : ∀ e : Int32, r = .inr e → zg g 0 mX12_placed T 46 [none, none, some (.int e), none] [] T S v T S') : zg g 0 mX12_placed T 4 [some (.ref k0), some (.int x1), some (.int x2), some (.int x3)] [] T S v T S' := by
  unfold fX12_placed_l4 at h
  refine z_iload_n dX12_placed_4 rfl ?_
  refine z_bipush dX12_placed_5 cB_8 ?_
  refine z_icmp_ge (tgt := 46) dX12_placed_7 (by decide) (fun q1 => ?_) (fun q1 => ?_)
  · rw [if_pos q1] at h
    cases h
    exact z_mask [false, false, true, false] rfl (K2_0 _ rfl)
  · rw [if_neg q1] at h
    refine z_iload_n dX12_placed_10 rfl ?_
    refine z_aload_n dX12_placed_11 rfl ?_
    refine z_gA (zF.x zfX12_96) h0.1 dX12_placed_12 ?_
    refine z_iload_n dX12_placed_15 rfl ?_
    obtain ⟨q2, h⟩ := zgd_elim h
    refine z_iald h0.2.2.2.2.2.2.2.2.2.2.2.2.2.2.2.2.2.2.2.2.2.2.2.2.2.2.2.2.2.1 (zin_ok q2) dX12_placed_16 ?_
    refine z_iload_n dX12_placed_17 rfl ?_
    refine z_icmp_ne (tgt := 37) dX12_placed_18 (by decide) (fun q3 => ?_) (fun q3 => ?_)
    · rw [if_neg q3] at h
      exact z_mask [true, true, false, true] rfl (tX12_placed_b37 T k0 x1 x3 x2 S h0 r h K1 K2_0)
    · rw [if_pos q3] at h
      refine z_aload_n dX12_placed_21 rfl ?_
      refine z_gA (zF.x zfX12_44) h0.1 dX12_placed_22 ?_
      refine z_iload_n dX12_placed_25 rfl ?_
      obtain ⟨q6, h⟩ := zgd_elim h
      refine z_iald h0.2.2.2.2.2.2.2.2.2.2.2.2.1 (zin_ok q6) dX12_placed_26 ?_
      refine z_iconst dX12_placed_27 cI_1 ?_
      refine z_icmp_ne (tgt := 37) dX12_placed_28 (by decide) (fun q7 => ?_) (fun q7 => ?_)
      · rw [if_neg q7] at h
        exact z_mask [true, true, false, true] rfl (tX12_placed_b37 T k0 x1 x3 x2 S h0 r h K1 K2_0)
      · rw [if_pos q7] at h
        refine z_iconst dX12_placed_31 cI_1 ?_
        refine z_iload_n dX12_placed_32 rfl ?_
        refine z_ishl dX12_placed_33 rfl ?_
        refine z_goto (tgt := 38) dX12_placed_34 (by decide) ?_
        exact z_mask [true, true, false, true] rfl (tX12_placed_b38 T k0 x1 x3 (1 <<< (x3 &&& 31)) x2 S h0 r h K1 K2_0)
set_option maxHeartbeats 4000000 in
set_option maxRecDepth 100000 in
theorem tX12_placed_l4 (T : zT) (k0 : Nat) (x1 : Int32) (S : zS) (h0 : iX12 T k0) {g : zG} {v : Option Value} {S' : zS} : ∀ (n : Nat) (a : (Int32 × Int32)) (e : Int32), lpn (fun a => fX12_placed_l4 T k0 x1 S a.1 a.2) n a = some e → (∀ e1 : Int32, e = e1 → zg g 0 mX12_placed T 46 [none, none, some (.int e1), none] [] T S v T S') → zg g 0 mX12_placed T 4 [some (.ref k0), some (.int x1), some (.int a.1), some (.int a.2)] [] T S v T S' := by
  intro n
  induction n with
  | zero =>
    intro a e h
    cases h
  | succ n ih =>
    intro a e h k0_
    rcases lpn_succ h with ⟨a1, ha_, hb_⟩ | ha_
    · exact tX12_placed_l4b T k0 x1 S a.1 a.2 h0 _ ha_ (fun a2 q => by cases q; exact ih a1 e hb_ k0_) (fun e1 q => by cases q)
    · exact tX12_placed_l4b T k0 x1 S a.1 a.2 h0 _ ha_ (fun a2 q => by cases q) (fun e1 q => by cases q; exact k0_ _ rfl)
set_option maxHeartbeats 4000000 in
set_option maxRecDepth 100000 in
theorem tX12_placed (T : zT) (k0 : Nat) (x1 : Int32) (S : zS) (h0 : iX12 T k0) (r : Int32) (h : fX12_placed T k0 x1 S = some r) : zGM 0 mX12_placed [.ref k0, .int x1] T S (some (.int r)) T S := by
  refine zGM_of zpnX12 rfl (Nat.le_of_ble_eq_true rfl) (fun g => ?_)
  show zg g 0 mX12_placed T 0 [some (.ref k0), some (.int x1), none, none] [] T S (some (.int r)) T S
  unfold fX12_placed at h
  refine z_iconst dX12_placed_0 cI_0 ?_
  refine z_istore_n dX12_placed_1 rfl (by decide) rfl ?_
  refine z_iconst dX12_placed_2 cI_0 ?_
  refine z_istore_n dX12_placed_3 rfl (by decide) rfl ?_
  obtain ⟨e8, hl9, h⟩ := zb1_elim h
  obtain ⟨nf10, hl9⟩ := lp_some hl9
  refine z_mask [true, true, true, true] rfl (tX12_placed_l4 T k0 x1 S h0 nf10 (0, 0) e8 hl9 (fun e_ q => ?_))
  · cases q
    refine z_iload_n dX12_placed_46 rfl ?_
    cases h
    exact z_iret rfl dX12_placed_47
/-! X12_owedNow -/
noncomputable def fX12_owedNow (T : zT) (k0 : Nat) (x1 : Int32) (x2 : Int32) (S : zS) : Option Int32 :=
  zgd (zin x1 8) (zgd (zin x1 8) (zgd (zin x1 8) (some ((S.1 (zr T k0 41) (x1 : Int32).toNatClampNeg) + ((S.1 (zr T k0 42) (x1 : Int32).toNatClampNeg) * (x2 - (S.1 (zr T k0 43) (x1 : Int32).toNatClampNeg)))))))
set_option maxHeartbeats 4000000 in
set_option maxRecDepth 100000 in
theorem tX12_owedNow (T : zT) (k0 : Nat) (x1 : Int32) (x2 : Int32) (S : zS) (h0 : iX12 T k0) (r : Int32) (h : fX12_owedNow T k0 x1 x2 S = some r) : zGM 0 mX12_owedNow [.ref k0, .int x1, .int x2] T S (some (.int r)) T S := by
  refine zGM_of zpnX12 rfl (Nat.le_of_ble_eq_true rfl) (fun g => ?_)
  show zg g 0 mX12_owedNow T 0 [some (.ref k0), some (.int x1), some (.int x2)] [] T S (some (.int r)) T S
  unfold fX12_owedNow at h
  refine z_aload_n dX12_owedNow_0 rfl ?_
  refine z_gA (zF.x zfX12_99) h0.1 dX12_owedNow_1 ?_
  refine z_iload_n dX12_owedNow_4 rfl ?_
  obtain ⟨q1, h⟩ := zgd_elim h
  refine z_iald h0.2.2.2.2.2.2.2.2.2.2.2.2.2.2.2.2.2.2.2.2.2.2.2.2.2.2.2.2.2.2.1 (zin_ok q1) dX12_owedNow_5 ?_
  refine z_aload_n dX12_owedNow_6 rfl ?_
  refine z_gA (zF.x zfX12_102) h0.1 dX12_owedNow_7 ?_
  refine z_iload_n dX12_owedNow_10 rfl ?_
  obtain ⟨q2, h⟩ := zgd_elim h
  refine z_iald h0.2.2.2.2.2.2.2.2.2.2.2.2.2.2.2.2.2.2.2.2.2.2.2.2.2.2.2.2.2.2.2.1 (zin_ok q2) dX12_owedNow_11 ?_
  refine z_iload_n dX12_owedNow_12 rfl ?_
  refine z_aload_n dX12_owedNow_13 rfl ?_
  refine z_gA (zF.x zfX12_105) h0.1 dX12_owedNow_14 ?_
  refine z_iload_n dX12_owedNow_17 rfl ?_
  obtain ⟨q3, h⟩ := zgd_elim h
  refine z_iald h0.2.2.2.2.2.2.2.2.2.2.2.2.2.2.2.2.2.2.2.2.2.2.2.2.2.2.2.2.2.2.2.2.1 (zin_ok q3) dX12_owedNow_18 ?_
  refine z_isub dX12_owedNow_19 rfl ?_
  refine z_imul dX12_owedNow_20 rfl ?_
  refine z_iadd dX12_owedNow_21 rfl ?_
  cases h
  exact z_iret rfl dX12_owedNow_22
/-! X12_loses -/
noncomputable def fX12_loses_b52 (T : zT) (k0 : Nat) (x1 : Int32) (x2 : Int32) (s0 : Int32) (s1 : Int32) (s2 : Nat) (m2 : Nat) (S : zS) : Option ((Int32 × zS) ⊕ zS) :=
  zgd (zin s1 m2) (zlet (zI S s2 (s1 : Int32).toNatClampNeg s0) fun S6 => zlet (x2 + 1) fun u7 => some (.inl (u7, S6)))
noncomputable def fX12_loses_b46 (T : zT) (k0 : Nat) (x1 : Int32) (x2 : Int32) (s0 : Int32) (s1 : Nat) (m1 : Nat) (S : zS) : Option ((Int32 × zS) ⊕ zS) :=
  zgd (zin x2 8) (fX12_loses_b52 T k0 x1 x2 (S.1 (zr T k0 40) (x2 : Int32).toNatClampNeg) s0 s1 m1 S)
noncomputable def fX12_loses_l2 (T : zT) (k0 : Nat) (x1 : Int32) (x2 : Int32) (S : zS) : Option ((Int32 × zS) ⊕ zS) :=
  if 8 ≤ x2 then some (.inr S) else zgd (zin x2 8) (if (S.1 (zr T k0 40) (x2 : Int32).toNatClampNeg) = 0 then zgd (zin x2 16) (if (S.1 (zr T k0 25) (x2 : Int32).toNatClampNeg) = (-1) then fX12_loses_b46 T k0 x1 x2 x2 (zr T k0 40) 8 S else zgd (zin x2 16) (if x1 < (S.1 (zr T k0 25) (x2 : Int32).toNatClampNeg) then fX12_loses_b46 T k0 x1 x2 x2 (zr T k0 40) 8 S else fX12_loses_b52 T k0 x1 x2 2 x2 (zr T k0 40) 8 S)) else fX12_loses_b46 T k0 x1 x2 x2 (zr T k0 40) 8 S)
noncomputable def fX12_loses (T : zT) (k0 : Nat) (x1 : Int32) (S : zS) : Option (Unit × zS) :=
  zb1 (lp (fun a => fX12_loses_l2 T k0 x1 a.1 a.2) (0, S)) fun e12 => some ((), e12)
set_option maxHeartbeats 4000000 in
set_option maxRecDepth 100000 in
theorem tX12_loses_b52 (T : zT) (k0 : Nat) (x1 : Int32) (x2 : Int32) (s0 : Int32) (s1 : Int32) (s2 : Nat) (m2 : Nat) (S : zS) (h0 : iX12 T k0) (g2 : zL T s2 20 m2) {g : zG} {v : Option Value} {S' : zS} (r : ((Int32 × zS) ⊕ zS)) (h : fX12_loses_b52 T k0 x1 x2 s0 s1 s2 m2 S = some r) (K1 : ∀ a : (Int32 × zS), r = .inl a → zg g 0 mX12_loses T 2 [some (.ref k0), some (.int x1), some (.int a.1)] [] T a.2 v T S') (K2_0 : ∀ e : zS, r = .inr e → zg g 0 mX12_loses T 59 [none, none, none] [] T e v T S') : zg g 0 mX12_loses T 52 [some (.ref k0), some (.int x1), some (.int x2)] [.int s0, .int s1, .ref s2] T S v T S' := by
  unfold fX12_loses_b52 at h
  obtain ⟨q5, h⟩ := zgd_elim h
  refine z_iast g2 (zin_ok q5) dX12_loses_52 ?_
  obtain ⟨S6, eS6, h⟩ := zlet_elim h
  refine z_tS eS6 ?_
  obtain ⟨u7, eu7, h⟩ := zlet_elim h
  refine z_iinc (r := u7) dX12_loses_53 rfl (by rw [eu7, cI_1]) rfl (by decide) rfl ?_
  refine z_goto (tgt := 2) dX12_loses_56 (by decide) ?_
  cases h
  exact z_mask [true, true, true] rfl (K1 _ rfl)
set_option maxHeartbeats 4000000 in
set_option maxRecDepth 100000 in
theorem tX12_loses_b46 (T : zT) (k0 : Nat) (x1 : Int32) (x2 : Int32) (s0 : Int32) (s1 : Nat) (m1 : Nat) (S : zS) (h0 : iX12 T k0) (g1 : zL T s1 20 m1) {g : zG} {v : Option Value} {S' : zS} (r : ((Int32 × zS) ⊕ zS)) (h : fX12_loses_b46 T k0 x1 x2 s0 s1 m1 S = some r) (K1 : ∀ a : (Int32 × zS), r = .inl a → zg g 0 mX12_loses T 2 [some (.ref k0), some (.int x1), some (.int a.1)] [] T a.2 v T S') (K2_0 : ∀ e : zS, r = .inr e → zg g 0 mX12_loses T 59 [none, none, none] [] T e v T S') : zg g 0 mX12_loses T 46 [some (.ref k0), some (.int x1), some (.int x2)] [.int s0, .ref s1] T S v T S' := by
  unfold fX12_loses_b46 at h
  refine z_aload_n dX12_loses_46 rfl ?_
  refine z_gA (zF.x zfX12_96) h0.1 dX12_loses_47 ?_
  refine z_iload_n dX12_loses_50 rfl ?_
  obtain ⟨q4, h⟩ := zgd_elim h
  refine z_iald h0.2.2.2.2.2.2.2.2.2.2.2.2.2.2.2.2.2.2.2.2.2.2.2.2.2.2.2.2.2.1 (zin_ok q4) dX12_loses_51 ?_
  exact z_mask [true, true, true] rfl (tX12_loses_b52 T k0 x1 x2 (S.1 (zr T k0 40) (x2 : Int32).toNatClampNeg) s0 s1 m1 S h0 g1 r h K1 K2_0)
set_option maxHeartbeats 4000000 in
set_option maxRecDepth 100000 in
theorem tX12_loses_l2b (T : zT) (k0 : Nat) (x1 : Int32) (x2 : Int32) (S : zS) (h0 : iX12 T k0) {g : zG} {v : Option Value} {S' : zS} (r : (Int32 × zS) ⊕ zS) (h : fX12_loses_l2 T k0 x1 x2 S = some r) (K1 : ∀ a : (Int32 × zS), r = .inl a → zg g 0 mX12_loses T 2 [some (.ref k0), some (.int x1), some (.int a.1)] [] T a.2 v T S') (K2_0 : ∀ e : zS, r = .inr e → zg g 0 mX12_loses T 59 [none, none, none] [] T e v T S') : zg g 0 mX12_loses T 2 [some (.ref k0), some (.int x1), some (.int x2)] [] T S v T S' := by
  unfold fX12_loses_l2 at h
  refine z_iload_n dX12_loses_2 rfl ?_
  refine z_bipush dX12_loses_3 cB_8 ?_
  refine z_icmp_ge (tgt := 59) dX12_loses_5 (by decide) (fun q1 => ?_) (fun q1 => ?_)
  · rw [if_pos q1] at h
    cases h
    exact z_mask [false, false, false] rfl (K2_0 _ rfl)
  · rw [if_neg q1] at h
    refine z_aload_n dX12_loses_8 rfl ?_
    refine z_gA (zF.x zfX12_96) h0.1 dX12_loses_9 ?_
    refine z_iload_n dX12_loses_12 rfl ?_
    refine z_aload_n dX12_loses_13 rfl ?_
    refine z_gA (zF.x zfX12_96) h0.1 dX12_loses_14 ?_
    refine z_iload_n dX12_loses_17 rfl ?_
    obtain ⟨q2, h⟩ := zgd_elim h
    refine z_iald h0.2.2.2.2.2.2.2.2.2.2.2.2.2.2.2.2.2.2.2.2.2.2.2.2.2.2.2.2.2.1 (zin_ok q2) dX12_loses_18 ?_
    refine z_if_ne (tgt := 46) dX12_loses_19 (by decide) (fun q3 => ?_) (fun q3 => ?_)
    · rw [if_neg q3] at h
      exact z_mask [true, true, true] rfl (tX12_loses_b46 T k0 x1 x2 x2 (zr T k0 40) 8 S h0 h0.2.2.2.2.2.2.2.2.2.2.2.2.2.2.2.2.2.2.2.2.2.2.2.2.2.2.2.2.2.1 r h K1 K2_0)
    · rw [if_pos q3] at h
      refine z_aload_n dX12_loses_22 rfl ?_
      refine z_gA (zF.x zfX12_53) h0.1 dX12_loses_23 ?_
      refine z_iload_n dX12_loses_26 rfl ?_
      obtain ⟨q8, h⟩ := zgd_elim h
      refine z_iald h0.2.2.2.2.2.2.2.2.2.2.2.2.2.2.2.1 (zin_ok q8) dX12_loses_27 ?_
      refine z_iconst dX12_loses_28 cI_m1 ?_
      refine z_icmp_eq (tgt := 46) dX12_loses_29 (by decide) (fun q9 => ?_) (fun q9 => ?_)
      · rw [if_pos q9] at h
        exact z_mask [true, true, true] rfl (tX12_loses_b46 T k0 x1 x2 x2 (zr T k0 40) 8 S h0 h0.2.2.2.2.2.2.2.2.2.2.2.2.2.2.2.2.2.2.2.2.2.2.2.2.2.2.2.2.2.1 r h K1 K2_0)
      · rw [if_neg q9] at h
        refine z_aload_n dX12_loses_32 rfl ?_
        refine z_gA (zF.x zfX12_53) h0.1 dX12_loses_33 ?_
        refine z_iload_n dX12_loses_36 rfl ?_
        obtain ⟨q10, h⟩ := zgd_elim h
        refine z_iald h0.2.2.2.2.2.2.2.2.2.2.2.2.2.2.2.1 (zin_ok q10) dX12_loses_37 ?_
        refine z_iload_n dX12_loses_38 rfl ?_
        refine z_icmp_gt (tgt := 46) dX12_loses_39 (by decide) (fun q11 => ?_) (fun q11 => ?_)
        · rw [if_pos q11] at h
          exact z_mask [true, true, true] rfl (tX12_loses_b46 T k0 x1 x2 x2 (zr T k0 40) 8 S h0 h0.2.2.2.2.2.2.2.2.2.2.2.2.2.2.2.2.2.2.2.2.2.2.2.2.2.2.2.2.2.1 r h K1 K2_0)
        · rw [if_neg q11] at h
          refine z_iconst dX12_loses_42 cI_2 ?_
          refine z_goto (tgt := 52) dX12_loses_43 (by decide) ?_
          exact z_mask [true, true, true] rfl (tX12_loses_b52 T k0 x1 x2 2 x2 (zr T k0 40) 8 S h0 h0.2.2.2.2.2.2.2.2.2.2.2.2.2.2.2.2.2.2.2.2.2.2.2.2.2.2.2.2.2.1 r h K1 K2_0)
set_option maxHeartbeats 4000000 in
set_option maxRecDepth 100000 in
theorem tX12_loses_l2 (T : zT) (k0 : Nat) (x1 : Int32) (h0 : iX12 T k0) {g : zG} {v : Option Value} {S' : zS} : ∀ (n : Nat) (a : (Int32 × zS)) (e : zS), lpn (fun a => fX12_loses_l2 T k0 x1 a.1 a.2) n a = some e → (∀ e1 : zS, e = e1 → zg g 0 mX12_loses T 59 [none, none, none] [] T e1 v T S') → zg g 0 mX12_loses T 2 [some (.ref k0), some (.int x1), some (.int a.1)] [] T a.2 v T S' := by
  intro n
  induction n with
  | zero =>
    intro a e h
    cases h
  | succ n ih =>
    intro a e h k0_
    rcases lpn_succ h with ⟨a1, ha_, hb_⟩ | ha_
    · exact tX12_loses_l2b T k0 x1 a.1 a.2 h0 _ ha_ (fun a2 q => by cases q; exact ih a1 e hb_ k0_) (fun e1 q => by cases q)
    · exact tX12_loses_l2b T k0 x1 a.1 a.2 h0 _ ha_ (fun a2 q => by cases q) (fun e1 q => by cases q; exact k0_ _ rfl)
set_option maxHeartbeats 4000000 in
set_option maxRecDepth 100000 in
theorem tX12_loses (T : zT) (k0 : Nat) (x1 : Int32) (S : zS) (h0 : iX12 T k0) (r : Unit × zS) (h : fX12_loses T k0 x1 S = some r) : zGM 0 mX12_loses [.ref k0, .int x1] T S none T r.2 := by
  refine zGM_of zpnX12 rfl (Nat.le_of_ble_eq_true rfl) (fun g => ?_)
  show zg g 0 mX12_loses T 0 [some (.ref k0), some (.int x1), none] [] T S none T r.2
  unfold fX12_loses at h
  refine z_iconst dX12_loses_0 cI_0 ?_
  refine z_istore_n dX12_loses_1 rfl (by decide) rfl ?_
  obtain ⟨e12, hl13, h⟩ := zb1_elim h
  obtain ⟨nf14, hl13⟩ := lp_some hl13
  refine z_mask [true, true, true] rfl (tX12_loses_l2 T k0 x1 h0 nf14 (0, S) e12 hl13 (fun e_ q => ?_))
  · cases q
    cases h
    exact z_vret rfl dX12_loses_59
/-! X12_works -/
noncomputable def fX12_works_b72 (T : zT) (s0 : Int32) (S : zS) : Option (Int32 × zS) :=
  zgd (zbl s0) (some (s0, S))
noncomputable def fX12_works_b67 (T : zT)  (S : zS) : Option (Int32 × zS) :=
  fX12_works_b72 T 1 S
noncomputable def fX12_works_b53 (T : zT) (s0 : Int32) (S : zS) : Option (Int32 × zS) :=
  zgd (zbl s0) (some (s0, S))
noncomputable def fX12_works (T : zT) (k0 : Nat) (x1 : Int32) (x2 : Int32) (x3 : Int32) (S : zS) : Option (Int32 × zS) :=
  if x1 = 1 then zlet (zJ S k0 52 ((((S.2 k0 52) * 1103515245) + 12345) - (((S.2 k0 52) * 1103515245) + 12345) / 2147483648 * 2147483648)) fun S5 => zgd (zin 0 2) (if 0 ≤ (lg_cmp (((S5.2 k0 52) / 65536) - ((S5.2 k0 52) / 65536) / 1000 * 1000) (((S5.1 (zr T k0 29) (0 : Int32).toNatClampNeg) : Int32).toInt64)) then fX12_works_b53 T 0 S5 else fX12_works_b53 T 1 S5) else if x1 = 0 then fX12_works_b67 T  S else if ((x2 >>> (x3 &&& 31)) &&& 1) = 1 then fX12_works_b67 T  S else fX12_works_b72 T 0 S
set_option maxHeartbeats 4000000 in
set_option maxRecDepth 100000 in
theorem tX12_works_b72 (T : zT) (s0 : Int32) (S : zS)  {g : zG} (r : (Int32 × zS)) (h : fX12_works_b72 T s0 S = some r)  : zg g 0 mX12_works T 72 [none, none, none, none] [.int s0] T S (some (.int r.1)) T r.2 := by
  unfold fX12_works_b72 at h
  obtain ⟨q3, h⟩ := zgd_elim h
  cases h
  exact z_zret rfl (zbl_ok q3) dX12_works_72
set_option maxHeartbeats 4000000 in
set_option maxRecDepth 100000 in
theorem tX12_works_b67 (T : zT)  (S : zS)  {g : zG} (r : (Int32 × zS)) (h : fX12_works_b67 T  S = some r)  : zg g 0 mX12_works T 67 [none, none, none, none] [] T S (some (.int r.1)) T r.2 := by
  unfold fX12_works_b67 at h
  refine z_iconst dX12_works_67 cI_1 ?_
  refine z_goto (tgt := 72) dX12_works_68 (by decide) ?_
  exact z_mask [false, false, false, false] rfl (tX12_works_b72 T 1 S  r h)
set_option maxHeartbeats 4000000 in
set_option maxRecDepth 100000 in
theorem tX12_works_b53 (T : zT) (s0 : Int32) (S : zS)  {g : zG} (r : (Int32 × zS)) (h : fX12_works_b53 T s0 S = some r)  : zg g 0 mX12_works T 53 [none, none, none, none] [.int s0] T S (some (.int r.1)) T r.2 := by
  unfold fX12_works_b53 at h
  obtain ⟨q8, h⟩ := zgd_elim h
  cases h
  exact z_zret rfl (zbl_ok q8) dX12_works_53
set_option maxHeartbeats 4000000 in
set_option maxRecDepth 100000 in
theorem tX12_works (T : zT) (k0 : Nat) (x1 : Int32) (x2 : Int32) (x3 : Int32) (S : zS) (h0 : iX12 T k0) (r : Int32 × zS) (h : fX12_works T k0 x1 x2 x3 S = some r) : zGM 0 mX12_works [.ref k0, .int x1, .int x2, .int x3] T S (some (.int r.1)) T r.2 := by
  refine zGM_of zpnX12 rfl (Nat.le_of_ble_eq_true rfl) (fun g => ?_)
  show zg g 0 mX12_works T 0 [some (.ref k0), some (.int x1), some (.int x2), some (.int x3)] [] T S (some (.int r.1)) T r.2
  unfold fX12_works at h
  refine z_iload_n dX12_works_0 rfl ?_
  refine z_iconst dX12_works_1 cI_1 ?_
  refine z_icmp_ne (tgt := 54) dX12_works_2 (by decide) (fun q1 => ?_) (fun q1 => ?_)
  · rw [if_neg q1] at h
    refine z_iload_n dX12_works_54 rfl ?_
    refine z_if_eq (tgt := 67) dX12_works_55 (by decide) (fun q2 => ?_) (fun q2 => ?_)
    · rw [if_pos q2] at h
      exact z_mask [false, false, false, false] rfl (tX12_works_b67 T  S  r h)
    · rw [if_neg q2] at h
      refine z_iload_n dX12_works_58 rfl ?_
      refine z_iload_n dX12_works_59 rfl ?_
      refine z_ishr dX12_works_60 rfl ?_
      refine z_iconst dX12_works_61 cI_1 ?_
      refine z_iand dX12_works_62 rfl ?_
      refine z_iconst dX12_works_63 cI_1 ?_
      refine z_icmp_ne (tgt := 71) dX12_works_64 (by decide) (fun q4 => ?_) (fun q4 => ?_)
      · rw [if_neg q4] at h
        refine z_iconst dX12_works_71 cI_0 ?_
        exact z_mask [false, false, false, false] rfl (tX12_works_b72 T 0 S  r h)
      · rw [if_pos q4] at h
        exact z_mask [false, false, false, false] rfl (tX12_works_b67 T  S  r h)
  · rw [if_pos q1] at h
    refine z_aload_n dX12_works_5 rfl ?_
    refine z_aload_n dX12_works_6 rfl ?_
    refine z_gJ (zF.x zfX12_423) h0.1 dX12_works_7 ?_
    refine z_ldc2 znX12_427 dX12_works_10 ?_
    refine z_lmul dX12_works_13 rfl ?_
    refine z_ldc2 znX12_429 dX12_works_14 ?_
    refine z_ladd dX12_works_17 rfl ?_
    refine z_ldc2 znX12_431 dX12_works_18 ?_
    refine z_lrem dX12_works_21 (by decide) rfl ?_
    refine z_putJ zfX12_423 h0.1 dX12_works_22 ?_
    obtain ⟨S5, eS5, h⟩ := zlet_elim h
    refine z_tS eS5 ?_
    refine z_aload_n dX12_works_25 rfl ?_
    refine z_gJ (zF.x zfX12_423) h0.1 dX12_works_26 ?_
    refine z_ldc2 znX12_433 dX12_works_29 ?_
    refine z_ldiv dX12_works_32 (by decide) rfl ?_
    refine z_ldc2 znX12_435 dX12_works_33 ?_
    refine z_lrem dX12_works_36 (by decide) rfl ?_
    refine z_aload_n dX12_works_37 rfl ?_
    refine z_gA (zF.x zfX12_65) h0.1 dX12_works_38 ?_
    refine z_iconst dX12_works_41 cI_0 ?_
    obtain ⟨q6, h⟩ := zgd_elim h
    refine z_iald h0.2.2.2.2.2.2.2.2.2.2.2.2.2.2.2.2.2.2.2.1 (zin_ok q6) dX12_works_42 ?_
    refine z_i2l dX12_works_43 rfl ?_
    refine z_lcmp dX12_works_44 rfl ?_
    refine z_if_ge (tgt := 52) dX12_works_45 (by decide) (fun q7 => ?_) (fun q7 => ?_)
    · rw [if_pos q7] at h
      refine z_iconst dX12_works_52 cI_0 ?_
      exact z_mask [false, false, false, false] rfl (tX12_works_b53 T 0 S5  r h)
    · rw [if_neg q7] at h
      refine z_iconst dX12_works_48 cI_1 ?_
      refine z_goto (tgt := 53) dX12_works_49 (by decide) ?_
      exact z_mask [false, false, false, false] rfl (tX12_works_b53 T 1 S5  r h)
/-! X12_asItIs -/
noncomputable def fX12_asItIs (T : zT) (k0 : Nat) (S : zS) : Option (Unit × zS) :=
  zlet (zI S k0 54 0) fun S1 => zlet (zI S1 k0 55 0) fun S2 => zlet (zI S2 k0 56 (-1)) fun S3 => zlet (zI S3 k0 57 (-1)) fun S4 => zlet (zI S4 k0 58 (-1)) fun S5 => zgd (zin 0 2) (zlet (zI S5 k0 59 (S5.1 (zr T k0 32) (0 : Int32).toNatClampNeg)) fun S7 => some ((), S7))
set_option maxHeartbeats 4000000 in
set_option maxRecDepth 100000 in
theorem tX12_asItIs (T : zT) (k0 : Nat) (S : zS) (h0 : iX12 T k0) (r : Unit × zS) (h : fX12_asItIs T k0 S = some r) : zGM 0 mX12_asItIs [.ref k0] T S none T r.2 := by
  refine zGM_of zpnX12 rfl (Nat.le_of_ble_eq_true rfl) (fun g => ?_)
  show zg g 0 mX12_asItIs T 0 [some (.ref k0)] [] T S none T r.2
  unfold fX12_asItIs at h
  refine z_aload_n dX12_asItIs_0 rfl ?_
  refine z_iconst dX12_asItIs_1 cI_0 ?_
  refine z_putI zfX12_461 h0.1 dX12_asItIs_2 ?_
  obtain ⟨S1, eS1, h⟩ := zlet_elim h
  refine z_tS eS1 ?_
  refine z_aload_n dX12_asItIs_5 rfl ?_
  refine z_iconst dX12_asItIs_6 cI_0 ?_
  refine z_putI zfX12_464 h0.1 dX12_asItIs_7 ?_
  obtain ⟨S2, eS2, h⟩ := zlet_elim h
  refine z_tS eS2 ?_
  refine z_aload_n dX12_asItIs_10 rfl ?_
  refine z_iconst dX12_asItIs_11 cI_m1 ?_
  refine z_putI zfX12_467 h0.1 dX12_asItIs_12 ?_
  obtain ⟨S3, eS3, h⟩ := zlet_elim h
  refine z_tS eS3 ?_
  refine z_aload_n dX12_asItIs_15 rfl ?_
  refine z_iconst dX12_asItIs_16 cI_m1 ?_
  refine z_putI zfX12_470 h0.1 dX12_asItIs_17 ?_
  obtain ⟨S4, eS4, h⟩ := zlet_elim h
  refine z_tS eS4 ?_
  refine z_aload_n dX12_asItIs_20 rfl ?_
  refine z_iconst dX12_asItIs_21 cI_m1 ?_
  refine z_putI zfX12_473 h0.1 dX12_asItIs_22 ?_
  obtain ⟨S5, eS5, h⟩ := zlet_elim h
  refine z_tS eS5 ?_
  refine z_aload_n dX12_asItIs_25 rfl ?_
  refine z_aload_n dX12_asItIs_26 rfl ?_
  refine z_gA (zF.x zfX12_74) h0.1 dX12_asItIs_27 ?_
  refine z_iconst dX12_asItIs_30 cI_0 ?_
  obtain ⟨q6, h⟩ := zgd_elim h
  refine z_iald h0.2.2.2.2.2.2.2.2.2.2.2.2.2.2.2.2.2.2.2.2.2.2.1 (zin_ok q6) dX12_asItIs_31 ?_
  refine z_putI zfX12_476 h0.1 dX12_asItIs_32 ?_
  obtain ⟨S7, eS7, h⟩ := zlet_elim h
  refine z_tS eS7 ?_
  cases h
  exact z_vret rfl dX12_asItIs_35
/-! X12_gone -/
noncomputable def fX12_gone_b67 (T : zT) (k0 : Nat) (x1 : Int32) (x3 : Int32) (s0 : Int32) (s1 : Int32) (S : zS) : Option ((Int32 × Int32) ⊕ Int32) :=
  zlet (s1 ||| s0) fun u5 => zlet (x3 + 1) fun u6 => some (.inl (u5, u6))
noncomputable def fX12_gone_b66 (T : zT) (k0 : Nat) (x1 : Int32) (x3 : Int32) (s0 : Int32) (S : zS) : Option ((Int32 × Int32) ⊕ Int32) :=
  fX12_gone_b67 T k0 x1 x3 0 s0 S
noncomputable def fX12_gone_b60 (T : zT) (k0 : Nat) (x1 : Int32) (x3 : Int32) (s0 : Int32) (S : zS) : Option ((Int32 × Int32) ⊕ Int32) :=
  fX12_gone_b67 T k0 x1 x3 (1 <<< (x3 &&& 31)) s0 S
noncomputable def fX12_gone_b44 (T : zT) (k0 : Nat) (x1 : Int32) (x3 : Int32) (s0 : Int32) (S : zS) : Option ((Int32 × Int32) ⊕ Int32) :=
  if x3 = (S.1 k0 56) then if x1 < (S.1 k0 57) then fX12_gone_b66 T k0 x1 x3 s0 S else fX12_gone_b60 T k0 x1 x3 s0 S else fX12_gone_b66 T k0 x1 x3 s0 S
noncomputable def fX12_gone_l7 (T : zT) (k0 : Nat) (x1 : Int32) (S : zS) (x2 : Int32) (x3 : Int32) : Option ((Int32 × Int32) ⊕ Int32) :=
  if 8 ≤ x3 then some (.inr x2) else zgd (zin x3 16) (if (S.1 (zr T k0 22) (x3 : Int32).toNatClampNeg) = 1 then zgd (zin x3 16) (if (S.1 (zr T k0 25) (x3 : Int32).toNatClampNeg) = (-1) then fX12_gone_b44 T k0 x1 x3 x2 S else zgd (zin x3 16) (if (S.1 (zr T k0 25) (x3 : Int32).toNatClampNeg) ≤ x1 then fX12_gone_b60 T k0 x1 x3 x2 S else fX12_gone_b44 T k0 x1 x3 x2 S)) else fX12_gone_b66 T k0 x1 x3 x2 S)
noncomputable def fX12_gone (T : zT) (k0 : Nat) (x1 : Int32) (S : zS) : Option Int32 :=
  zlet (S.1 k0 54) fun u1 => zb1 (lp (fun a => fX12_gone_l7 T k0 x1 S a.1 a.2) (u1, 0)) fun e13 => some e13
set_option maxHeartbeats 4000000 in
set_option maxRecDepth 100000 in
theorem tX12_gone_b67 (T : zT) (k0 : Nat) (x1 : Int32) (x3 : Int32) (s0 : Int32) (s1 : Int32) (S : zS) (h0 : iX12 T k0) {g : zG} {v : Option Value} {S' : zS} (r : ((Int32 × Int32) ⊕ Int32)) (h : fX12_gone_b67 T k0 x1 x3 s0 s1 S = some r) (K1 : ∀ a : (Int32 × Int32), r = .inl a → zg g 0 mX12_gone T 7 [some (.ref k0), some (.int x1), some (.int a.1), some (.int a.2)] [] T S v T S') (K2_0 : ∀ e : Int32, r = .inr e → zg g 0 mX12_gone T 75 [none, none, some (.int e), none] [] T S v T S') : zg g 0 mX12_gone T 67 [some (.ref k0), some (.int x1), none, some (.int x3)] [.int s0, .int s1] T S v T S' := by
  unfold fX12_gone_b67 at h
  refine z_ior dX12_gone_67 rfl ?_
  obtain ⟨u5, eu5, h⟩ := zlet_elim h
  refine z_ti eu5 ?_
  refine z_istore_n dX12_gone_68 rfl (by decide) rfl ?_
  obtain ⟨u6, eu6, h⟩ := zlet_elim h
  refine z_iinc (r := u6) dX12_gone_69 rfl (by rw [eu6, cI_1]) rfl (by decide) rfl ?_
  refine z_goto (tgt := 7) dX12_gone_72 (by decide) ?_
  cases h
  exact z_mask [true, true, true, true] rfl (K1 _ rfl)
set_option maxHeartbeats 4000000 in
set_option maxRecDepth 100000 in
theorem tX12_gone_b66 (T : zT) (k0 : Nat) (x1 : Int32) (x3 : Int32) (s0 : Int32) (S : zS) (h0 : iX12 T k0) {g : zG} {v : Option Value} {S' : zS} (r : ((Int32 × Int32) ⊕ Int32)) (h : fX12_gone_b66 T k0 x1 x3 s0 S = some r) (K1 : ∀ a : (Int32 × Int32), r = .inl a → zg g 0 mX12_gone T 7 [some (.ref k0), some (.int x1), some (.int a.1), some (.int a.2)] [] T S v T S') (K2_0 : ∀ e : Int32, r = .inr e → zg g 0 mX12_gone T 75 [none, none, some (.int e), none] [] T S v T S') : zg g 0 mX12_gone T 66 [some (.ref k0), some (.int x1), none, some (.int x3)] [.int s0] T S v T S' := by
  unfold fX12_gone_b66 at h
  refine z_iconst dX12_gone_66 cI_0 ?_
  exact z_mask [true, true, false, true] rfl (tX12_gone_b67 T k0 x1 x3 0 s0 S h0 r h K1 K2_0)
set_option maxHeartbeats 4000000 in
set_option maxRecDepth 100000 in
theorem tX12_gone_b60 (T : zT) (k0 : Nat) (x1 : Int32) (x3 : Int32) (s0 : Int32) (S : zS) (h0 : iX12 T k0) {g : zG} {v : Option Value} {S' : zS} (r : ((Int32 × Int32) ⊕ Int32)) (h : fX12_gone_b60 T k0 x1 x3 s0 S = some r) (K1 : ∀ a : (Int32 × Int32), r = .inl a → zg g 0 mX12_gone T 7 [some (.ref k0), some (.int x1), some (.int a.1), some (.int a.2)] [] T S v T S') (K2_0 : ∀ e : Int32, r = .inr e → zg g 0 mX12_gone T 75 [none, none, some (.int e), none] [] T S v T S') : zg g 0 mX12_gone T 60 [some (.ref k0), some (.int x1), none, some (.int x3)] [.int s0] T S v T S' := by
  unfold fX12_gone_b60 at h
  refine z_iconst dX12_gone_60 cI_1 ?_
  refine z_iload_n dX12_gone_61 rfl ?_
  refine z_ishl dX12_gone_62 rfl ?_
  refine z_goto (tgt := 67) dX12_gone_63 (by decide) ?_
  exact z_mask [true, true, false, true] rfl (tX12_gone_b67 T k0 x1 x3 (1 <<< (x3 &&& 31)) s0 S h0 r h K1 K2_0)
set_option maxHeartbeats 4000000 in
set_option maxRecDepth 100000 in
theorem tX12_gone_b44 (T : zT) (k0 : Nat) (x1 : Int32) (x3 : Int32) (s0 : Int32) (S : zS) (h0 : iX12 T k0) {g : zG} {v : Option Value} {S' : zS} (r : ((Int32 × Int32) ⊕ Int32)) (h : fX12_gone_b44 T k0 x1 x3 s0 S = some r) (K1 : ∀ a : (Int32 × Int32), r = .inl a → zg g 0 mX12_gone T 7 [some (.ref k0), some (.int x1), some (.int a.1), some (.int a.2)] [] T S v T S') (K2_0 : ∀ e : Int32, r = .inr e → zg g 0 mX12_gone T 75 [none, none, some (.int e), none] [] T S v T S') : zg g 0 mX12_gone T 44 [some (.ref k0), some (.int x1), none, some (.int x3)] [.int s0] T S v T S' := by
  unfold fX12_gone_b44 at h
  refine z_iload_n dX12_gone_44 rfl ?_
  refine z_aload_n dX12_gone_45 rfl ?_
  refine z_gI (zF.x zfX12_467) h0.1 dX12_gone_46 ?_
  refine z_icmp_ne (tgt := 66) dX12_gone_49 (by decide) (fun q9 => ?_) (fun q9 => ?_)
  · rw [if_neg q9] at h
    exact z_mask [true, true, false, true] rfl (tX12_gone_b66 T k0 x1 x3 s0 S h0 r h K1 K2_0)
  · rw [if_pos q9] at h
    refine z_iload_n dX12_gone_52 rfl ?_
    refine z_aload_n dX12_gone_53 rfl ?_
    refine z_gI (zF.x zfX12_470) h0.1 dX12_gone_54 ?_
    refine z_icmp_lt (tgt := 66) dX12_gone_57 (by decide) (fun q10 => ?_) (fun q10 => ?_)
    · rw [if_pos q10] at h
      exact z_mask [true, true, false, true] rfl (tX12_gone_b66 T k0 x1 x3 s0 S h0 r h K1 K2_0)
    · rw [if_neg q10] at h
      exact z_mask [true, true, false, true] rfl (tX12_gone_b60 T k0 x1 x3 s0 S h0 r h K1 K2_0)
set_option maxHeartbeats 4000000 in
set_option maxRecDepth 100000 in
theorem tX12_gone_l7b (T : zT) (k0 : Nat) (x1 : Int32) (S : zS) (x2 : Int32) (x3 : Int32) (h0 : iX12 T k0) {g : zG} {v : Option Value} {S' : zS} (r : (Int32 × Int32) ⊕ Int32) (h : fX12_gone_l7 T k0 x1 S x2 x3 = some r) (K1 : ∀ a : (Int32 × Int32), r = .inl a → zg g 0 mX12_gone T 7 [some (.ref k0), some (.int x1), some (.int a.1), some (.int a.2)] [] T S v T S') (K2_0 : ∀ e : Int32, r = .inr e → zg g 0 mX12_gone T 75 [none, none, some (.int e), none] [] T S v T S') : zg g 0 mX12_gone T 7 [some (.ref k0), some (.int x1), some (.int x2), some (.int x3)] [] T S v T S' := by
  unfold fX12_gone_l7 at h
  refine z_iload_n dX12_gone_7 rfl ?_
  refine z_bipush dX12_gone_8 cB_8 ?_
  refine z_icmp_ge (tgt := 75) dX12_gone_10 (by decide) (fun q2 => ?_) (fun q2 => ?_)
  · rw [if_pos q2] at h
    cases h
    exact z_mask [false, false, true, false] rfl (K2_0 _ rfl)
  · rw [if_neg q2] at h
    refine z_iload_n dX12_gone_13 rfl ?_
    refine z_aload_n dX12_gone_14 rfl ?_
    refine z_gA (zF.x zfX12_44) h0.1 dX12_gone_15 ?_
    refine z_iload_n dX12_gone_18 rfl ?_
    obtain ⟨q3, h⟩ := zgd_elim h
    refine z_iald h0.2.2.2.2.2.2.2.2.2.2.2.2.1 (zin_ok q3) dX12_gone_19 ?_
    refine z_iconst dX12_gone_20 cI_1 ?_
    refine z_icmp_ne (tgt := 66) dX12_gone_21 (by decide) (fun q4 => ?_) (fun q4 => ?_)
    · rw [if_neg q4] at h
      exact z_mask [true, true, false, true] rfl (tX12_gone_b66 T k0 x1 x3 x2 S h0 r h K1 K2_0)
    · rw [if_pos q4] at h
      refine z_aload_n dX12_gone_24 rfl ?_
      refine z_gA (zF.x zfX12_53) h0.1 dX12_gone_25 ?_
      refine z_iload_n dX12_gone_28 rfl ?_
      obtain ⟨q7, h⟩ := zgd_elim h
      refine z_iald h0.2.2.2.2.2.2.2.2.2.2.2.2.2.2.2.1 (zin_ok q7) dX12_gone_29 ?_
      refine z_iconst dX12_gone_30 cI_m1 ?_
      refine z_icmp_eq (tgt := 44) dX12_gone_31 (by decide) (fun q8 => ?_) (fun q8 => ?_)
      · rw [if_pos q8] at h
        exact z_mask [true, true, false, true] rfl (tX12_gone_b44 T k0 x1 x3 x2 S h0 r h K1 K2_0)
      · rw [if_neg q8] at h
        refine z_aload_n dX12_gone_34 rfl ?_
        refine z_gA (zF.x zfX12_53) h0.1 dX12_gone_35 ?_
        refine z_iload_n dX12_gone_38 rfl ?_
        obtain ⟨q11, h⟩ := zgd_elim h
        refine z_iald h0.2.2.2.2.2.2.2.2.2.2.2.2.2.2.2.1 (zin_ok q11) dX12_gone_39 ?_
        refine z_iload_n dX12_gone_40 rfl ?_
        refine z_icmp_le (tgt := 60) dX12_gone_41 (by decide) (fun q12 => ?_) (fun q12 => ?_)
        · rw [if_pos q12] at h
          exact z_mask [true, true, false, true] rfl (tX12_gone_b60 T k0 x1 x3 x2 S h0 r h K1 K2_0)
        · rw [if_neg q12] at h
          exact z_mask [true, true, false, true] rfl (tX12_gone_b44 T k0 x1 x3 x2 S h0 r h K1 K2_0)
set_option maxHeartbeats 4000000 in
set_option maxRecDepth 100000 in
theorem tX12_gone_l7 (T : zT) (k0 : Nat) (x1 : Int32) (S : zS) (h0 : iX12 T k0) {g : zG} {v : Option Value} {S' : zS} : ∀ (n : Nat) (a : (Int32 × Int32)) (e : Int32), lpn (fun a => fX12_gone_l7 T k0 x1 S a.1 a.2) n a = some e → (∀ e1 : Int32, e = e1 → zg g 0 mX12_gone T 75 [none, none, some (.int e1), none] [] T S v T S') → zg g 0 mX12_gone T 7 [some (.ref k0), some (.int x1), some (.int a.1), some (.int a.2)] [] T S v T S' := by
  intro n
  induction n with
  | zero =>
    intro a e h
    cases h
  | succ n ih =>
    intro a e h k0_
    rcases lpn_succ h with ⟨a1, ha_, hb_⟩ | ha_
    · exact tX12_gone_l7b T k0 x1 S a.1 a.2 h0 _ ha_ (fun a2 q => by cases q; exact ih a1 e hb_ k0_) (fun e1 q => by cases q)
    · exact tX12_gone_l7b T k0 x1 S a.1 a.2 h0 _ ha_ (fun a2 q => by cases q) (fun e1 q => by cases q; exact k0_ _ rfl)
set_option maxHeartbeats 4000000 in
set_option maxRecDepth 100000 in
theorem tX12_gone (T : zT) (k0 : Nat) (x1 : Int32) (S : zS) (h0 : iX12 T k0) (r : Int32) (h : fX12_gone T k0 x1 S = some r) : zGM 0 mX12_gone [.ref k0, .int x1] T S (some (.int r)) T S := by
  refine zGM_of zpnX12 rfl (Nat.le_of_ble_eq_true rfl) (fun g => ?_)
  show zg g 0 mX12_gone T 0 [some (.ref k0), some (.int x1), none, none] [] T S (some (.int r)) T S
  unfold fX12_gone at h
  refine z_aload_n dX12_gone_0 rfl ?_
  refine z_gI (zF.x zfX12_461) h0.1 dX12_gone_1 ?_
  obtain ⟨u1, eu1, h⟩ := zlet_elim h
  refine z_ti eu1 ?_
  refine z_istore_n dX12_gone_4 rfl (by decide) rfl ?_
  refine z_iconst dX12_gone_5 cI_0 ?_
  refine z_istore_n dX12_gone_6 rfl (by decide) rfl ?_
  obtain ⟨e13, hl14, h⟩ := zb1_elim h
  obtain ⟨nf15, hl14⟩ := lp_some hl14
  refine z_mask [true, true, true, true] rfl (tX12_gone_l7 T k0 x1 S h0 nf15 (u1, 0) e13 hl14 (fun e_ q => ?_))
  · cases q
    refine z_iload_n dX12_gone_75 rfl ?_
    cases h
    exact z_iret rfl dX12_gone_76
/-! X12_planned -/
noncomputable def fX12_planned (T : zT) (k0 : Nat) (x1 : Int32) (S : zS) : Option Int32 :=
  zgd (zin 0 2) (zgd (zin ((256 * ((S.1 (zr T k0 33) (0 : Int32).toNatClampNeg) - 1)) + x1) 15360) (some (S.1 (zr T k0 53) (((256 * ((S.1 (zr T k0 33) (0 : Int32).toNatClampNeg) - 1)) + x1) : Int32).toNatClampNeg)))
set_option maxHeartbeats 4000000 in
set_option maxRecDepth 100000 in
theorem tX12_planned (T : zT) (k0 : Nat) (x1 : Int32) (S : zS) (h0 : iX12 T k0) (r : Int32) (h : fX12_planned T k0 x1 S = some r) : zGM 0 mX12_planned [.ref k0, .int x1] T S (some (.int r)) T S := by
  refine zGM_of zpnX12 rfl (Nat.le_of_ble_eq_true rfl) (fun g => ?_)
  show zg g 0 mX12_planned T 0 [some (.ref k0), some (.int x1)] [] T S (some (.int r)) T S
  unfold fX12_planned at h
  refine z_aload_n dX12_planned_0 rfl ?_
  refine z_gA (zF.x zfX12_118) h0.1 dX12_planned_1 ?_
  refine z_sipush dX12_planned_4 cS_256 ?_
  refine z_aload_n dX12_planned_7 rfl ?_
  refine z_gA (zF.x zfX12_77) h0.1 dX12_planned_8 ?_
  refine z_iconst dX12_planned_11 cI_0 ?_
  obtain ⟨q1, h⟩ := zgd_elim h
  refine z_iald h0.2.2.2.2.2.2.2.2.2.2.2.2.2.2.2.2.2.2.2.2.2.2.2.1 (zin_ok q1) dX12_planned_12 ?_
  refine z_iconst dX12_planned_13 cI_1 ?_
  refine z_isub dX12_planned_14 rfl ?_
  refine z_imul dX12_planned_15 rfl ?_
  refine z_iload_n dX12_planned_16 rfl ?_
  refine z_iadd dX12_planned_17 rfl ?_
  obtain ⟨q2, h⟩ := zgd_elim h
  refine z_iald h0.2.2.2.2.2.2.2.2.2.2.2.2.2.2.2.2.2.2.2.2.2.2.2.2.2.2.2.2.2.2.2.2.2.2.2.2.1 (zin_ok q2) dX12_planned_18 ?_
  cases h
  exact z_iret rfl dX12_planned_19
/-! X12_keeps -/
noncomputable def fX12_keeps_b50 (T : zT) (k0 : Nat) (x3 : Int32) (x4 : Int32) (s0 : Int32) (S : zS) : Option ((Int32 × Int32) ⊕ Int32) :=
  zlet (x4 + 1) fun u7 => some (.inl (s0, u7))
noncomputable def fX12_keeps_l12 (T : zT) (k0 : Nat) (x3 : Int32) (S : zS) (x2 : Int32) (x4 : Int32) : Option ((Int32 × Int32) ⊕ Int32) :=
  zgd (zin x3 8) (if ((24 * x3) + (S.1 (zr T k0 14) (x3 : Int32).toNatClampNeg)) ≤ x4 then some (.inr x2) else zgd (zin x4 192) (if (S.1 (zr T k0 15) (x4 : Int32).toNatClampNeg) = 1 then zgd (zin x4 192) (fX12_keeps_b50 T k0 x3 x4 (S.1 (zr T k0 17) (x4 : Int32).toNatClampNeg) S) else fX12_keeps_b50 T k0 x3 x4 x2 S))
noncomputable def fX12_keeps (T : zT) (k0 : Nat) (x1 : Int32) (S : zS) : Option Int32 :=
  zlet (2 + x1) fun u1 => zlet (24 * u1) fun u2 => zb1 (lp (fun a => fX12_keeps_l12 T k0 u1 S a.1 a.2) (0, u2)) fun e9 => some e9
set_option maxHeartbeats 4000000 in
set_option maxRecDepth 100000 in
theorem tX12_keeps_b50 (T : zT) (k0 : Nat) (x3 : Int32) (x4 : Int32) (s0 : Int32) (S : zS) (h0 : iX12 T k0) {g : zG} {v : Option Value} {S' : zS} (r : ((Int32 × Int32) ⊕ Int32)) (h : fX12_keeps_b50 T k0 x3 x4 s0 S = some r) (K1 : ∀ a : (Int32 × Int32), r = .inl a → zg g 0 mX12_keeps T 12 [some (.ref k0), none, some (.int a.1), some (.int x3), some (.int a.2)] [] T S v T S') (K2_0 : ∀ e : Int32, r = .inr e → zg g 0 mX12_keeps T 57 [none, none, some (.int e), none, none] [] T S v T S') : zg g 0 mX12_keeps T 50 [some (.ref k0), none, none, some (.int x3), some (.int x4)] [.int s0] T S v T S' := by
  unfold fX12_keeps_b50 at h
  refine z_istore_n dX12_keeps_50 rfl (by decide) rfl ?_
  obtain ⟨u7, eu7, h⟩ := zlet_elim h
  refine z_iinc (r := u7) dX12_keeps_51 rfl (by rw [eu7, cI_1]) rfl (by decide) rfl ?_
  refine z_goto (tgt := 12) dX12_keeps_54 (by decide) ?_
  cases h
  exact z_mask [true, false, true, true, true] rfl (K1 _ rfl)
set_option maxHeartbeats 4000000 in
set_option maxRecDepth 100000 in
theorem tX12_keeps_l12b (T : zT) (k0 : Nat) (x3 : Int32) (S : zS) (x2 : Int32) (x4 : Int32) (h0 : iX12 T k0) {g : zG} {v : Option Value} {S' : zS} (r : (Int32 × Int32) ⊕ Int32) (h : fX12_keeps_l12 T k0 x3 S x2 x4 = some r) (K1 : ∀ a : (Int32 × Int32), r = .inl a → zg g 0 mX12_keeps T 12 [some (.ref k0), none, some (.int a.1), some (.int x3), some (.int a.2)] [] T S v T S') (K2_0 : ∀ e : Int32, r = .inr e → zg g 0 mX12_keeps T 57 [none, none, some (.int e), none, none] [] T S v T S') : zg g 0 mX12_keeps T 12 [some (.ref k0), none, some (.int x2), some (.int x3), some (.int x4)] [] T S v T S' := by
  unfold fX12_keeps_l12 at h
  refine z_iload dX12_keeps_12 rfl ?_
  refine z_bipush dX12_keeps_14 cB_24 ?_
  refine z_iload_n dX12_keeps_16 rfl ?_
  refine z_imul dX12_keeps_17 rfl ?_
  refine z_aload_n dX12_keeps_18 rfl ?_
  refine z_gA (zF.x zfX12_20) h0.1 dX12_keeps_19 ?_
  refine z_iload_n dX12_keeps_22 rfl ?_
  obtain ⟨q3, h⟩ := zgd_elim h
  refine z_iald h0.2.2.2.2.1 (zin_ok q3) dX12_keeps_23 ?_
  refine z_iadd dX12_keeps_24 rfl ?_
  refine z_icmp_ge (tgt := 57) dX12_keeps_25 (by decide) (fun q4 => ?_) (fun q4 => ?_)
  · rw [if_pos q4] at h
    cases h
    exact z_mask [false, false, true, false, false] rfl (K2_0 _ rfl)
  · rw [if_neg q4] at h
    refine z_aload_n dX12_keeps_28 rfl ?_
    refine z_gA (zF.x zfX12_23) h0.1 dX12_keeps_29 ?_
    refine z_iload dX12_keeps_32 rfl ?_
    obtain ⟨q5, h⟩ := zgd_elim h
    refine z_iald h0.2.2.2.2.2.1 (zin_ok q5) dX12_keeps_34 ?_
    refine z_iconst dX12_keeps_35 cI_1 ?_
    refine z_icmp_ne (tgt := 49) dX12_keeps_36 (by decide) (fun q6 => ?_) (fun q6 => ?_)
    · rw [if_neg q6] at h
      refine z_iload_n dX12_keeps_49 rfl ?_
      exact z_mask [true, false, false, true, true] rfl (tX12_keeps_b50 T k0 x3 x4 x2 S h0 r h K1 K2_0)
    · rw [if_pos q6] at h
      refine z_aload_n dX12_keeps_39 rfl ?_
      refine z_gA (zF.x zfX12_29) h0.1 dX12_keeps_40 ?_
      refine z_iload dX12_keeps_43 rfl ?_
      obtain ⟨q8, h⟩ := zgd_elim h
      refine z_iald h0.2.2.2.2.2.2.2.1 (zin_ok q8) dX12_keeps_45 ?_
      refine z_goto (tgt := 50) dX12_keeps_46 (by decide) ?_
      exact z_mask [true, false, false, true, true] rfl (tX12_keeps_b50 T k0 x3 x4 (S.1 (zr T k0 17) (x4 : Int32).toNatClampNeg) S h0 r h K1 K2_0)
set_option maxHeartbeats 4000000 in
set_option maxRecDepth 100000 in
theorem tX12_keeps_l12 (T : zT) (k0 : Nat) (x3 : Int32) (S : zS) (h0 : iX12 T k0) {g : zG} {v : Option Value} {S' : zS} : ∀ (n : Nat) (a : (Int32 × Int32)) (e : Int32), lpn (fun a => fX12_keeps_l12 T k0 x3 S a.1 a.2) n a = some e → (∀ e1 : Int32, e = e1 → zg g 0 mX12_keeps T 57 [none, none, some (.int e1), none, none] [] T S v T S') → zg g 0 mX12_keeps T 12 [some (.ref k0), none, some (.int a.1), some (.int x3), some (.int a.2)] [] T S v T S' := by
  intro n
  induction n with
  | zero =>
    intro a e h
    cases h
  | succ n ih =>
    intro a e h k0_
    rcases lpn_succ h with ⟨a1, ha_, hb_⟩ | ha_
    · exact tX12_keeps_l12b T k0 x3 S a.1 a.2 h0 _ ha_ (fun a2 q => by cases q; exact ih a1 e hb_ k0_) (fun e1 q => by cases q)
    · exact tX12_keeps_l12b T k0 x3 S a.1 a.2 h0 _ ha_ (fun a2 q => by cases q) (fun e1 q => by cases q; exact k0_ _ rfl)
set_option maxHeartbeats 4000000 in
set_option maxRecDepth 100000 in
theorem tX12_keeps (T : zT) (k0 : Nat) (x1 : Int32) (S : zS) (h0 : iX12 T k0) (r : Int32) (h : fX12_keeps T k0 x1 S = some r) : zGM 0 mX12_keeps [.ref k0, .int x1] T S (some (.int r)) T S := by
  refine zGM_of zpnX12 rfl (Nat.le_of_ble_eq_true rfl) (fun g => ?_)
  show zg g 0 mX12_keeps T 0 [some (.ref k0), some (.int x1), none, none, none] [] T S (some (.int r)) T S
  unfold fX12_keeps at h
  refine z_iconst dX12_keeps_0 cI_0 ?_
  refine z_istore_n dX12_keeps_1 rfl (by decide) rfl ?_
  refine z_iconst dX12_keeps_2 cI_2 ?_
  refine z_iload_n dX12_keeps_3 rfl ?_
  refine z_iadd dX12_keeps_4 rfl ?_
  obtain ⟨u1, eu1, h⟩ := zlet_elim h
  refine z_ti eu1 ?_
  refine z_istore_n dX12_keeps_5 rfl (by decide) rfl ?_
  refine z_bipush dX12_keeps_6 cB_24 ?_
  refine z_iload_n dX12_keeps_8 rfl ?_
  refine z_imul dX12_keeps_9 rfl ?_
  obtain ⟨u2, eu2, h⟩ := zlet_elim h
  refine z_ti eu2 ?_
  refine z_istore dX12_keeps_10 rfl (by decide) rfl ?_
  obtain ⟨e9, hl10, h⟩ := zb1_elim h
  obtain ⟨nf11, hl10⟩ := lp_some hl10
  refine z_mask [true, false, true, true, true] rfl (tX12_keeps_l12 T k0 u1 S h0 nf11 (0, u2) e9 hl10 (fun e_ q => ?_))
  · cases q
    refine z_iload_n dX12_keeps_57 rfl ?_
    cases h
    exact z_iret rfl dX12_keeps_58
/-! X12_carry -/
noncomputable def fX12_carry_b41 (T : zT) (k0 : Nat) (k1 : Nat) (n1 : Nat) (x2 : Int32) (x3 : Int32) (S : zS) : Option ((Int32 × zS) ⊕ zS) :=
  zlet (zI S k0 65 ((S.1 k0 65) + 1)) fun S6 => zlet (x3 + 1) fun u7 => some (.inl (u7, S6))
noncomputable def fX12_carry_l2 (T : zT) (k0 : Nat) (k1 : Nat) (n1 : Nat) (x2 : Int32) (x3 : Int32) (S : zS) : Option ((Int32 × zS) ⊕ zS) :=
  if x2 ≤ x3 then some (.inr S) else if (S.1 k0 66) = 0 then zgd (zin x3 n1) (zgd (zin (S.1 k0 65) 3920) (zlet (zI S (zr T k0 63) ((S.1 k0 65) : Int32).toNatClampNeg (S.1 k1 (x3 : Int32).toNatClampNeg)) fun S5 => fX12_carry_b41 T k0 k1 n1 x2 x3 S5)) else zgd (zin (S.1 k0 65) 3920) (zgd (zin x3 n1) (zlet (zI S k1 (x3 : Int32).toNatClampNeg (S.1 (zr T k0 63) ((S.1 k0 65) : Int32).toNatClampNeg)) fun S10 => fX12_carry_b41 T k0 k1 n1 x2 x3 S10))
noncomputable def fX12_carry (T : zT) (k0 : Nat) (k1 : Nat) (n1 : Nat) (x2 : Int32) (S : zS) : Option (Unit × zS) :=
  zb1 (lp (fun a => fX12_carry_l2 T k0 k1 n1 x2 a.1 a.2) (0, S)) fun e11 => some ((), e11)
set_option maxHeartbeats 4000000 in
set_option maxRecDepth 100000 in
theorem tX12_carry_b41 (T : zT) (k0 : Nat) (k1 : Nat) (n1 : Nat) (x2 : Int32) (x3 : Int32) (S : zS) (h0 : iX12 T k0) (h1 : zL T k1 20 n1) {g : zG} {v : Option Value} {S' : zS} (r : ((Int32 × zS) ⊕ zS)) (h : fX12_carry_b41 T k0 k1 n1 x2 x3 S = some r) (K1 : ∀ a : (Int32 × zS), r = .inl a → zg g 0 mX12_carry T 2 [some (.ref k0), some (.ref k1), some (.int x2), some (.int a.1)] [] T a.2 v T S') (K2_0 : ∀ e : zS, r = .inr e → zg g 0 mX12_carry T 57 [none, none, none, none] [] T e v T S') : zg g 0 mX12_carry T 41 [some (.ref k0), some (.ref k1), some (.int x2), some (.int x3)] [] T S v T S' := by
  unfold fX12_carry_b41 at h
  refine z_aload_n dX12_carry_41 rfl ?_
  refine z_dup dX12_carry_42 rfl ?_
  refine z_gI (zF.x zfX12_560) h0.1 dX12_carry_43 ?_
  refine z_iconst dX12_carry_46 cI_1 ?_
  refine z_iadd dX12_carry_47 rfl ?_
  refine z_putI zfX12_560 h0.1 dX12_carry_48 ?_
  obtain ⟨S6, eS6, h⟩ := zlet_elim h
  refine z_tS eS6 ?_
  obtain ⟨u7, eu7, h⟩ := zlet_elim h
  refine z_iinc (r := u7) dX12_carry_51 rfl (by rw [eu7, cI_1]) rfl (by decide) rfl ?_
  refine z_goto (tgt := 2) dX12_carry_54 (by decide) ?_
  cases h
  exact z_mask [true, true, true, true] rfl (K1 _ rfl)
set_option maxHeartbeats 4000000 in
set_option maxRecDepth 100000 in
theorem tX12_carry_l2b (T : zT) (k0 : Nat) (k1 : Nat) (n1 : Nat) (x2 : Int32) (x3 : Int32) (S : zS) (h0 : iX12 T k0) (h1 : zL T k1 20 n1) {g : zG} {v : Option Value} {S' : zS} (r : (Int32 × zS) ⊕ zS) (h : fX12_carry_l2 T k0 k1 n1 x2 x3 S = some r) (K1 : ∀ a : (Int32 × zS), r = .inl a → zg g 0 mX12_carry T 2 [some (.ref k0), some (.ref k1), some (.int x2), some (.int a.1)] [] T a.2 v T S') (K2_0 : ∀ e : zS, r = .inr e → zg g 0 mX12_carry T 57 [none, none, none, none] [] T e v T S') : zg g 0 mX12_carry T 2 [some (.ref k0), some (.ref k1), some (.int x2), some (.int x3)] [] T S v T S' := by
  unfold fX12_carry_l2 at h
  refine z_iload_n dX12_carry_2 rfl ?_
  refine z_iload_n dX12_carry_3 rfl ?_
  refine z_icmp_ge (tgt := 57) dX12_carry_4 (by decide) (fun q1 => ?_) (fun q1 => ?_)
  · rw [if_pos q1] at h
    cases h
    exact z_mask [false, false, false, false] rfl (K2_0 _ rfl)
  · rw [if_neg q1] at h
    refine z_aload_n dX12_carry_7 rfl ?_
    refine z_gZ (zF.x zfX12_557) h0.1 dX12_carry_8 ?_
    refine z_if_eq (tgt := 29) dX12_carry_11 (by decide) (fun q2 => ?_) (fun q2 => ?_)
    · rw [if_pos q2] at h
      refine z_aload_n dX12_carry_29 rfl ?_
      refine z_gA (zF.x zfX12_130) h0.1 dX12_carry_30 ?_
      refine z_aload_n dX12_carry_33 rfl ?_
      refine z_gI (zF.x zfX12_560) h0.1 dX12_carry_34 ?_
      refine z_aload_n dX12_carry_37 rfl ?_
      refine z_iload_n dX12_carry_38 rfl ?_
      obtain ⟨q3, h⟩ := zgd_elim h
      refine z_iald h1 (zin_ok q3) dX12_carry_39 ?_
      obtain ⟨q4, h⟩ := zgd_elim h
      refine z_iast h0.2.2.2.2.2.2.2.2.2.2.2.2.2.2.2.2.2.2.2.2.2.2.2.2.2.2.2.2.2.2.2.2.2.2.2.2.2.2.2.2.1 (zin_ok q4) dX12_carry_40 ?_
      obtain ⟨S5, eS5, h⟩ := zlet_elim h
      refine z_tS eS5 ?_
      exact z_mask [true, true, true, true] rfl (tX12_carry_b41 T k0 k1 n1 x2 x3 S5 h0 h1 r h K1 K2_0)
    · rw [if_neg q2] at h
      refine z_aload_n dX12_carry_14 rfl ?_
      refine z_iload_n dX12_carry_15 rfl ?_
      refine z_aload_n dX12_carry_16 rfl ?_
      refine z_gA (zF.x zfX12_130) h0.1 dX12_carry_17 ?_
      refine z_aload_n dX12_carry_20 rfl ?_
      refine z_gI (zF.x zfX12_560) h0.1 dX12_carry_21 ?_
      obtain ⟨q8, h⟩ := zgd_elim h
      refine z_iald h0.2.2.2.2.2.2.2.2.2.2.2.2.2.2.2.2.2.2.2.2.2.2.2.2.2.2.2.2.2.2.2.2.2.2.2.2.2.2.2.2.1 (zin_ok q8) dX12_carry_24 ?_
      obtain ⟨q9, h⟩ := zgd_elim h
      refine z_iast h1 (zin_ok q9) dX12_carry_25 ?_
      obtain ⟨S10, eS10, h⟩ := zlet_elim h
      refine z_tS eS10 ?_
      refine z_goto (tgt := 41) dX12_carry_26 (by decide) ?_
      exact z_mask [true, true, true, true] rfl (tX12_carry_b41 T k0 k1 n1 x2 x3 S10 h0 h1 r h K1 K2_0)
set_option maxHeartbeats 4000000 in
set_option maxRecDepth 100000 in
theorem tX12_carry_l2 (T : zT) (k0 : Nat) (k1 : Nat) (n1 : Nat) (x2 : Int32) (h0 : iX12 T k0) (h1 : zL T k1 20 n1) {g : zG} {v : Option Value} {S' : zS} : ∀ (n : Nat) (a : (Int32 × zS)) (e : zS), lpn (fun a => fX12_carry_l2 T k0 k1 n1 x2 a.1 a.2) n a = some e → (∀ e1 : zS, e = e1 → zg g 0 mX12_carry T 57 [none, none, none, none] [] T e1 v T S') → zg g 0 mX12_carry T 2 [some (.ref k0), some (.ref k1), some (.int x2), some (.int a.1)] [] T a.2 v T S' := by
  intro n
  induction n with
  | zero =>
    intro a e h
    cases h
  | succ n ih =>
    intro a e h k0_
    rcases lpn_succ h with ⟨a1, ha_, hb_⟩ | ha_
    · exact tX12_carry_l2b T k0 k1 n1 x2 a.1 a.2 h0 h1 _ ha_ (fun a2 q => by cases q; exact ih a1 e hb_ k0_) (fun e1 q => by cases q)
    · exact tX12_carry_l2b T k0 k1 n1 x2 a.1 a.2 h0 h1 _ ha_ (fun a2 q => by cases q) (fun e1 q => by cases q; exact k0_ _ rfl)
set_option maxHeartbeats 4000000 in
set_option maxRecDepth 100000 in
theorem tX12_carry (T : zT) (k0 : Nat) (k1 : Nat) (n1 : Nat) (x2 : Int32) (S : zS) (h0 : iX12 T k0) (h1 : zL T k1 20 n1) (r : Unit × zS) (h : fX12_carry T k0 k1 n1 x2 S = some r) : zGM 0 mX12_carry [.ref k0, .ref k1, .int x2] T S none T r.2 := by
  refine zGM_of zpnX12 rfl (Nat.le_of_ble_eq_true rfl) (fun g => ?_)
  show zg g 0 mX12_carry T 0 [some (.ref k0), some (.ref k1), some (.int x2), none] [] T S none T r.2
  unfold fX12_carry at h
  refine z_iconst dX12_carry_0 cI_0 ?_
  refine z_istore_n dX12_carry_1 rfl (by decide) rfl ?_
  obtain ⟨e11, hl12, h⟩ := zb1_elim h
  obtain ⟨nf13, hl12⟩ := lp_some hl12
  refine z_mask [true, true, true, true] rfl (tX12_carry_l2 T k0 k1 n1 x2 h0 h1 nf13 (0, S) e11 hl12 (fun e_ q => ?_))
  · cases q
    cases h
    exact z_vret rfl dX12_carry_57
/-! X12_feed -/
noncomputable def fX12_feed (T : zT) (k0 : Nat) (x1 : Int32) (x2 : Int32) (x3 : Int32) (x4 : Int32) (x5 : Int32) (S : zS) : Option (Int32 × zS) :=
  if ((S.1 k0 1) + 20) ≤ 400 then zb (fX12_put T k0 x1 S) fun _ S4 => zb (fX12_put T k0 x2 S4) fun _ S7 => zb (fX12_put T k0 x3 S7) fun _ S10 => zb (fX12_put T k0 x4 S10) fun _ S13 => zb (fX12_put T k0 x5 S13) fun _ S16 => some ((S16.1 k0 1), S16) else some ((-1), S)
set_option maxHeartbeats 4000000 in
set_option maxRecDepth 100000 in
theorem tX12_feed (T : zT) (k0 : Nat) (x1 : Int32) (x2 : Int32) (x3 : Int32) (x4 : Int32) (x5 : Int32) (S : zS) (h0 : iX12 T k0) (r : Int32 × zS) (h : fX12_feed T k0 x1 x2 x3 x4 x5 S = some r) : zGM 1 mX12_feed [.ref k0, .int x1, .int x2, .int x3, .int x4, .int x5] T S (some (.int r.1)) T r.2 := by
  refine zGM_of zpnX12 rfl (Nat.le_of_ble_eq_true rfl) (fun g => ?_)
  show zg g 1 mX12_feed T 0 [some (.ref k0), some (.int x1), some (.int x2), some (.int x3), some (.int x4), some (.int x5)] [] T S (some (.int r.1)) T r.2
  unfold fX12_feed at h
  refine z_aload_n dX12_feed_0 rfl ?_
  refine z_gI (zF.x zfX12_147) h0.1 dX12_feed_1 ?_
  refine z_bipush dX12_feed_4 cB_20 ?_
  refine z_iadd dX12_feed_6 rfl ?_
  refine z_sipush dX12_feed_7 cS_400 ?_
  refine z_icmp_le (tgt := 15) dX12_feed_10 (by decide) (fun q1 => ?_) (fun q1 => ?_)
  · rw [if_pos q1] at h
    refine z_aload_n dX12_feed_15 rfl ?_
    refine z_iload_n dX12_feed_16 rfl ?_
    obtain ⟨r2, S4, hc3, h⟩ := zb_elim h
    refine z_callV (As := [.int x1]) zcX12 zkX12_150 ziX12_put zqX12_put h0.1 (tX12_put T k0 x1 S h0 (r2, S4) hc3) rfl rfl (Nat.le_of_ble_eq_true rfl) (by decide) ⟨Nat.le_refl _, Nat.le_refl _⟩ ⟨Nat.le_refl _, Nat.le_refl _⟩ dX12_feed_17 ?_
    refine z_aload_n dX12_feed_20 rfl ?_
    refine z_iload_n dX12_feed_21 rfl ?_
    obtain ⟨r5, S7, hc6, h⟩ := zb_elim h
    refine z_callV (As := [.int x2]) zcX12 zkX12_150 ziX12_put zqX12_put h0.1 (tX12_put T k0 x2 S4 h0 (r5, S7) hc6) rfl rfl (Nat.le_of_ble_eq_true rfl) (by decide) ⟨Nat.le_refl _, Nat.le_refl _⟩ ⟨Nat.le_refl _, Nat.le_refl _⟩ dX12_feed_22 ?_
    refine z_aload_n dX12_feed_25 rfl ?_
    refine z_iload_n dX12_feed_26 rfl ?_
    obtain ⟨r8, S10, hc9, h⟩ := zb_elim h
    refine z_callV (As := [.int x3]) zcX12 zkX12_150 ziX12_put zqX12_put h0.1 (tX12_put T k0 x3 S7 h0 (r8, S10) hc9) rfl rfl (Nat.le_of_ble_eq_true rfl) (by decide) ⟨Nat.le_refl _, Nat.le_refl _⟩ ⟨Nat.le_refl _, Nat.le_refl _⟩ dX12_feed_27 ?_
    refine z_aload_n dX12_feed_30 rfl ?_
    refine z_iload dX12_feed_31 rfl ?_
    obtain ⟨r11, S13, hc12, h⟩ := zb_elim h
    refine z_callV (As := [.int x4]) zcX12 zkX12_150 ziX12_put zqX12_put h0.1 (tX12_put T k0 x4 S10 h0 (r11, S13) hc12) rfl rfl (Nat.le_of_ble_eq_true rfl) (by decide) ⟨Nat.le_refl _, Nat.le_refl _⟩ ⟨Nat.le_refl _, Nat.le_refl _⟩ dX12_feed_33 ?_
    refine z_aload_n dX12_feed_36 rfl ?_
    refine z_iload dX12_feed_37 rfl ?_
    obtain ⟨r14, S16, hc15, h⟩ := zb_elim h
    refine z_callV (As := [.int x5]) zcX12 zkX12_150 ziX12_put zqX12_put h0.1 (tX12_put T k0 x5 S13 h0 (r14, S16) hc15) rfl rfl (Nat.le_of_ble_eq_true rfl) (by decide) ⟨Nat.le_refl _, Nat.le_refl _⟩ ⟨Nat.le_refl _, Nat.le_refl _⟩ dX12_feed_39 ?_
    refine z_aload_n dX12_feed_42 rfl ?_
    refine z_gI (zF.x zfX12_147) h0.1 dX12_feed_43 ?_
    cases h
    exact z_iret rfl dX12_feed_46
  · rw [if_neg q1] at h
    refine z_iconst dX12_feed_13 cI_m1 ?_
    cases h
    exact z_iret rfl dX12_feed_14
/-! X12_wordOf -/
noncomputable def fX12_wordOf_b36 (T : zT) (s0 : Nat) (S : zS) : Option Nat :=
  some s0
noncomputable def fX12_wordOf (T : zT) (k0 : Nat) (x1 : Int32) (S : zS) : Option Nat :=
  if (S.1 k0 4) ≤ 1 then if x1 = 0 then fX12_wordOf_b36 T 8 S else if x1 = 1 then fX12_wordOf_b36 T 10 S else fX12_wordOf_b36 T 11 S else zb1 (fX12_ruleWord T x1 S) fun r4 => fX12_wordOf_b36 T r4 S
set_option maxHeartbeats 4000000 in
set_option maxRecDepth 100000 in
theorem tX12_wordOf_b36 (T : zT) (s0 : Nat) (S : zS) (g0 : s0 < 27) {g : zG} (r : Nat) (h : fX12_wordOf_b36 T s0 S = some r)  : zg g 1 mX12_wordOf T 36 [none, none] [.ref (10002 + s0)] T S (some (.ref (10002 + r))) T S := by
  unfold fX12_wordOf_b36 at h
  cases h
  exact z_aret rfl (Or.inl ⟨_, rfl⟩) dX12_wordOf_36
set_option maxHeartbeats 4000000 in
set_option maxRecDepth 100000 in
theorem tX12_wordOf (T : zT) (k0 : Nat) (x1 : Int32) (S : zS) (h0 : iX12 T k0) (r : Nat) (h : fX12_wordOf T k0 x1 S = some r) : zGM 1 mX12_wordOf [.ref k0, .int x1] T S (some (.ref (10002 + r))) T S := by
  refine zGM_of zpnX12 rfl (Nat.le_of_ble_eq_true rfl) (fun g => ?_)
  show zg g 1 mX12_wordOf T 0 [some (.ref k0), some (.int x1)] [] T S (some (.ref (10002 + r))) T S
  unfold fX12_wordOf at h
  refine z_aload_n dX12_wordOf_0 rfl ?_
  refine z_gI (zF.x zfX12_153) h0.1 dX12_wordOf_1 ?_
  refine z_iconst dX12_wordOf_4 cI_1 ?_
  refine z_icmp_le (tgt := 15) dX12_wordOf_5 (by decide) (fun q1 => ?_) (fun q1 => ?_)
  · rw [if_pos q1] at h
    refine z_iload_n dX12_wordOf_15 rfl ?_
    refine z_if_ne (tgt := 24) dX12_wordOf_16 (by decide) (fun q2 => ?_) (fun q2 => ?_)
    · rw [if_neg q2] at h
      refine z_iload_n dX12_wordOf_24 rfl ?_
      refine z_iconst dX12_wordOf_25 cI_1 ?_
      refine z_icmp_ne (tgt := 34) dX12_wordOf_26 (by decide) (fun q3 => ?_) (fun q3 => ?_)
      · rw [if_neg q3] at h
        refine z_ldcS (i := 11) rfl dX12_wordOf_34 ?_
        exact z_mask [false, false] rfl (tX12_wordOf_b36 T 11 S (by decide) r h)
      · rw [if_pos q3] at h
        refine z_ldcS (i := 10) rfl dX12_wordOf_29 ?_
        refine z_goto (tgt := 36) dX12_wordOf_31 (by decide) ?_
        exact z_mask [false, false] rfl (tX12_wordOf_b36 T 10 S (by decide) r h)
    · rw [if_pos q2] at h
      refine z_ldcS (i := 8) rfl dX12_wordOf_19 ?_
      refine z_goto (tgt := 36) dX12_wordOf_21 (by decide) ?_
      exact z_mask [false, false] rfl (tX12_wordOf_b36 T 8 S (by decide) r h)
  · rw [if_neg q1] at h
    refine z_iload_n dX12_wordOf_8 rfl ?_
    obtain ⟨r4, hc5, h⟩ := zb1_elim h
    refine z_callS (As := [.int x1]) zkX12_156 zsX12_ruleWord (tX12_ruleWord T x1 S  r4 hc5) rfl rfl (Nat.le_of_ble_eq_true rfl) (by decide) ⟨Nat.le_refl _, Nat.le_refl _⟩ ⟨Nat.le_refl _, Nat.le_refl _⟩ dX12_wordOf_9 ?_
    refine z_goto (tgt := 36) dX12_wordOf_12 (by decide) ?_
    exact z_mask [false, false] rfl (tX12_wordOf_b36 T r4 S (uX12_ruleWord T x1 S  r4 hc5) r h)
set_option maxHeartbeats 4000000 in
set_option maxRecDepth 100000 in
theorem uX12_wordOf (T : zT) (k0 : Nat) (x1 : Int32) (S : zS) (h0 : iX12 T k0) (r : Nat) (h : fX12_wordOf T k0 x1 S = some r) : r < 27 := by
  unfold fX12_wordOf at h
  simp only [fX12_wordOf_b36] at h
  (repeat' split at h) <;> first | (cases h; decide) | (obtain ⟨r4, hc4, h⟩ := zb1_elim h; cases h; exact uX12_ruleWord _ _ _ _ hc4)
/-! X12_blanks -/
noncomputable def fX12_blanks_l0 (T : zT) (k0 : Nat)  (S : zS) : Option (zS ⊕ zS) :=
  zb1 (fX12_sign T k0 S) fun r1 => if r1 = 32 then zlet (zI S k0 2 ((S.1 k0 2) + 1)) fun S4 => some (.inl S4) else some (.inr S)
noncomputable def fX12_blanks (T : zT) (k0 : Nat) (S : zS) : Option (Unit × zS) :=
  zb1 (lp (fun a => fX12_blanks_l0 T k0 a) S) fun e5 => some ((), e5)
set_option maxHeartbeats 4000000 in
set_option maxRecDepth 100000 in
theorem tX12_blanks_l0b (T : zT) (k0 : Nat)  (S : zS) (h0 : iX12 T k0) {g : zG} {v : Option Value} {S' : zS} (r : zS ⊕ zS) (h : fX12_blanks_l0 T k0  S = some r) (K1 : ∀ a : zS, r = .inl a → zg g 1 mX12_blanks T 0 [some (.ref k0)] [] T a v T S') (K2_0 : ∀ e : zS, r = .inr e → zg g 1 mX12_blanks T 22 [none] [] T e v T S') : zg g 1 mX12_blanks T 0 [some (.ref k0)] [] T S v T S' := by
  unfold fX12_blanks_l0 at h
  refine z_aload_n dX12_blanks_0 rfl ?_
  obtain ⟨r1, hc2, h⟩ := zb1_elim h
  refine z_callV (As := []) zcX12 zkX12_193 ziX12_sign zqX12_sign h0.1 (tX12_sign T k0 S h0 r1 hc2) rfl rfl (Nat.le_of_ble_eq_true rfl) (by decide) ⟨Nat.le_refl _, Nat.le_refl _⟩ ⟨Nat.le_refl _, Nat.le_refl _⟩ dX12_blanks_1 ?_
  refine z_bipush dX12_blanks_4 cB_32 ?_
  refine z_icmp_ne (tgt := 22) dX12_blanks_6 (by decide) (fun q3 => ?_) (fun q3 => ?_)
  · rw [if_neg q3] at h
    cases h
    exact z_mask [false] rfl (K2_0 _ rfl)
  · rw [if_pos q3] at h
    refine z_aload_n dX12_blanks_9 rfl ?_
    refine z_dup dX12_blanks_10 rfl ?_
    refine z_gI (zF.x zfX12_190) h0.1 dX12_blanks_11 ?_
    refine z_iconst dX12_blanks_14 cI_1 ?_
    refine z_iadd dX12_blanks_15 rfl ?_
    refine z_putI zfX12_190 h0.1 dX12_blanks_16 ?_
    obtain ⟨S4, eS4, h⟩ := zlet_elim h
    refine z_tS eS4 ?_
    refine z_goto (tgt := 0) dX12_blanks_19 (by decide) ?_
    cases h
    exact z_mask [true] rfl (K1 _ rfl)
set_option maxHeartbeats 4000000 in
set_option maxRecDepth 100000 in
theorem tX12_blanks_l0 (T : zT) (k0 : Nat) (h0 : iX12 T k0) {g : zG} {v : Option Value} {S' : zS} : ∀ (n : Nat) (a : zS) (e : zS), lpn (fun a => fX12_blanks_l0 T k0 a) n a = some e → (∀ e1 : zS, e = e1 → zg g 1 mX12_blanks T 22 [none] [] T e1 v T S') → zg g 1 mX12_blanks T 0 [some (.ref k0)] [] T a v T S' := by
  intro n
  induction n with
  | zero =>
    intro a e h
    cases h
  | succ n ih =>
    intro a e h k0_
    rcases lpn_succ h with ⟨a1, ha_, hb_⟩ | ha_
    · exact tX12_blanks_l0b T k0 a h0 _ ha_ (fun a2 q => by cases q; exact ih a1 e hb_ k0_) (fun e1 q => by cases q)
    · exact tX12_blanks_l0b T k0 a h0 _ ha_ (fun a2 q => by cases q) (fun e1 q => by cases q; exact k0_ _ rfl)
set_option maxHeartbeats 4000000 in
set_option maxRecDepth 100000 in
theorem tX12_blanks (T : zT) (k0 : Nat) (S : zS) (h0 : iX12 T k0) (r : Unit × zS) (h : fX12_blanks T k0 S = some r) : zGM 1 mX12_blanks [.ref k0] T S none T r.2 := by
  refine zGM_of zpnX12 rfl (Nat.le_of_ble_eq_true rfl) (fun g => ?_)
  show zg g 1 mX12_blanks T 0 [some (.ref k0)] [] T S none T r.2
  unfold fX12_blanks at h
  obtain ⟨e5, hl6, h⟩ := zb1_elim h
  obtain ⟨nf7, hl6⟩ := lp_some hl6
  refine z_mask [true] rfl (tX12_blanks_l0 T k0 h0 nf7 S e5 hl6 (fun e_ q => ?_))
  · cases q
    cases h
    exact z_vret rfl dX12_blanks_22
/-! X12_isDigit -/
noncomputable def fX12_isDigit (T : zT) (k0 : Nat) (S : zS) : Option Int32 :=
  zb1 (fX12_sign T k0 S) fun r1 => zb1 (fX12_in T ((r1 : Int32).toInt64) 48 57 S) fun r3 => zgd (zbl r3) (some r3)
set_option maxHeartbeats 4000000 in
set_option maxRecDepth 100000 in
theorem tX12_isDigit (T : zT) (k0 : Nat) (S : zS) (h0 : iX12 T k0) (r : Int32) (h : fX12_isDigit T k0 S = some r) : zGM 1 mX12_isDigit [.ref k0] T S (some (.int r)) T S := by
  refine zGM_of zpnX12 rfl (Nat.le_of_ble_eq_true rfl) (fun g => ?_)
  show zg g 1 mX12_isDigit T 0 [some (.ref k0)] [] T S (some (.int r)) T S
  unfold fX12_isDigit at h
  refine z_aload_n dX12_isDigit_0 rfl ?_
  obtain ⟨r1, hc2, h⟩ := zb1_elim h
  refine z_callV (As := []) zcX12 zkX12_193 ziX12_sign zqX12_sign h0.1 (tX12_sign T k0 S h0 r1 hc2) rfl rfl (Nat.le_of_ble_eq_true rfl) (by decide) ⟨Nat.le_refl _, Nat.le_refl _⟩ ⟨Nat.le_refl _, Nat.le_refl _⟩ dX12_isDigit_1 ?_
  refine z_i2l dX12_isDigit_4 rfl ?_
  refine z_ldc2 znX12_197 dX12_isDigit_5 ?_
  refine z_ldc2 znX12_199 dX12_isDigit_8 ?_
  obtain ⟨r3, hc4, h⟩ := zb1_elim h
  refine z_callS (As := [.long ((r1 : Int32).toInt64), .long 48, .long 57]) zkX12_201 zsX12_in (tX12_in T ((r1 : Int32).toInt64) 48 57 S  r3 hc4) rfl rfl (Nat.le_of_ble_eq_true rfl) (by decide) ⟨Nat.le_refl _, Nat.le_refl _⟩ ⟨Nat.le_refl _, Nat.le_refl _⟩ dX12_isDigit_11 ?_
  obtain ⟨q5, h⟩ := zgd_elim h
  cases h
  exact z_zret rfl (zbl_ok q5) dX12_isDigit_14
/-! X12_isCounted -/
noncomputable def fX12_isCounted_b15 (T : zT) (k0 : Nat) (S : zS) : Option (Unit × zS) :=
  zlet (zI S k0 8 ((S.1 k0 8) + 1)) fun S2 => some ((), S2)
noncomputable def fX12_isCounted (T : zT) (k0 : Nat) (x1 : Int32) (S : zS) : Option (Unit × zS) :=
  if (S.1 k0 8) = 60 then zb (fX12_fails T k0 3 x1 S) fun _ S5 => fX12_isCounted_b15 T k0 S5 else fX12_isCounted_b15 T k0 S
set_option maxHeartbeats 4000000 in
set_option maxRecDepth 100000 in
theorem tX12_isCounted_b15 (T : zT) (k0 : Nat) (S : zS) (h0 : iX12 T k0) {g : zG} (r : (Unit × zS)) (h : fX12_isCounted_b15 T k0 S = some r)  : zg g 1 mX12_isCounted T 15 [some (.ref k0), none] [] T S none T r.2 := by
  unfold fX12_isCounted_b15 at h
  refine z_aload_n dX12_isCounted_15 rfl ?_
  refine z_dup dX12_isCounted_16 rfl ?_
  refine z_gI (zF.x zfX12_223) h0.1 dX12_isCounted_17 ?_
  refine z_iconst dX12_isCounted_20 cI_1 ?_
  refine z_iadd dX12_isCounted_21 rfl ?_
  refine z_putI zfX12_223 h0.1 dX12_isCounted_22 ?_
  obtain ⟨S2, eS2, h⟩ := zlet_elim h
  refine z_tS eS2 ?_
  cases h
  exact z_vret rfl dX12_isCounted_25
set_option maxHeartbeats 4000000 in
set_option maxRecDepth 100000 in
theorem tX12_isCounted (T : zT) (k0 : Nat) (x1 : Int32) (S : zS) (h0 : iX12 T k0) (r : Unit × zS) (h : fX12_isCounted T k0 x1 S = some r) : zGM 1 mX12_isCounted [.ref k0, .int x1] T S none T r.2 := by
  refine zGM_of zpnX12 rfl (Nat.le_of_ble_eq_true rfl) (fun g => ?_)
  show zg g 1 mX12_isCounted T 0 [some (.ref k0), some (.int x1)] [] T S none T r.2
  unfold fX12_isCounted at h
  refine z_aload_n dX12_isCounted_0 rfl ?_
  refine z_gI (zF.x zfX12_223) h0.1 dX12_isCounted_1 ?_
  refine z_bipush dX12_isCounted_4 cB_60 ?_
  refine z_icmp_ne (tgt := 15) dX12_isCounted_6 (by decide) (fun q1 => ?_) (fun q1 => ?_)
  · rw [if_neg q1] at h
    exact z_mask [true, false] rfl (tX12_isCounted_b15 T k0 S h0 r h)
  · rw [if_pos q1] at h
    refine z_aload_n dX12_isCounted_9 rfl ?_
    refine z_iconst dX12_isCounted_10 cI_3 ?_
    refine z_iload_n dX12_isCounted_11 rfl ?_
    obtain ⟨r3, S5, hc4, h⟩ := zb_elim h
    refine z_callV (As := [.int 3, .int x1]) zcX12 zkX12_226 ziX12_fails zqX12_fails h0.1 (tX12_fails T k0 3 x1 S h0 (r3, S5) hc4) rfl rfl (Nat.le_of_ble_eq_true rfl) (by decide) ⟨Nat.le_refl _, Nat.le_refl _⟩ ⟨Nat.le_refl _, Nat.le_refl _⟩ dX12_isCounted_12 ?_
    exact z_mask [true, false] rfl (tX12_isCounted_b15 T k0 S5 h0 r h)
/-! X12_opens -/
noncomputable def fX12_opens_b40 (T : zT) (k0 : Nat) (x1 : Int32) (S : zS) : Option (Unit × zS) :=
  zgd (zin (S.1 k0 9) 402) (zlet (zI S (zr T k0 21) ((S.1 k0 9) : Int32).toNatClampNeg x1) fun S5 => zlet (zI S5 k0 9 ((S5.1 k0 9) + 1)) fun S6 => some ((), S6))
noncomputable def fX12_opens_b30 (T : zT) (k0 : Nat) (x1 : Int32) (S : zS) : Option (Unit × zS) :=
  zlet (zI S k0 7 ((S.1 k0 7) + 1)) fun S3 => fX12_opens_b40 T k0 x1 S3
noncomputable def fX12_opens_b12 (T : zT) (k0 : Nat) (x1 : Int32) (S : zS) : Option (Unit × zS) :=
  if (S.1 k0 7) = 10 then zb (fX12_fails T k0 2 (S.1 k0 2) S) fun _ S9 => fX12_opens_b30 T k0 x1 S9 else fX12_opens_b30 T k0 x1 S
noncomputable def fX12_opens (T : zT) (k0 : Nat) (x1 : Int32) (S : zS) : Option (Unit × zS) :=
  if x1 = 9 then fX12_opens_b12 T k0 x1 S else if x1 = 12 then fX12_opens_b12 T k0 x1 S else fX12_opens_b40 T k0 x1 S
set_option maxHeartbeats 4000000 in
set_option maxRecDepth 100000 in
theorem tX12_opens_b40 (T : zT) (k0 : Nat) (x1 : Int32) (S : zS) (h0 : iX12 T k0) {g : zG} (r : (Unit × zS)) (h : fX12_opens_b40 T k0 x1 S = some r)  : zg g 1 mX12_opens T 40 [some (.ref k0), some (.int x1)] [] T S none T r.2 := by
  unfold fX12_opens_b40 at h
  refine z_aload_n dX12_opens_40 rfl ?_
  refine z_gA (zF.x zfX12_41) h0.1 dX12_opens_41 ?_
  refine z_aload_n dX12_opens_44 rfl ?_
  refine z_gI (zF.x zfX12_260) h0.1 dX12_opens_45 ?_
  refine z_iload_n dX12_opens_48 rfl ?_
  obtain ⟨q4, h⟩ := zgd_elim h
  refine z_iast h0.2.2.2.2.2.2.2.2.2.2.2.1 (zin_ok q4) dX12_opens_49 ?_
  obtain ⟨S5, eS5, h⟩ := zlet_elim h
  refine z_tS eS5 ?_
  refine z_aload_n dX12_opens_50 rfl ?_
  refine z_dup dX12_opens_51 rfl ?_
  refine z_gI (zF.x zfX12_260) h0.1 dX12_opens_52 ?_
  refine z_iconst dX12_opens_55 cI_1 ?_
  refine z_iadd dX12_opens_56 rfl ?_
  refine z_putI zfX12_260 h0.1 dX12_opens_57 ?_
  obtain ⟨S6, eS6, h⟩ := zlet_elim h
  refine z_tS eS6 ?_
  cases h
  exact z_vret rfl dX12_opens_60
set_option maxHeartbeats 4000000 in
set_option maxRecDepth 100000 in
theorem tX12_opens_b30 (T : zT) (k0 : Nat) (x1 : Int32) (S : zS) (h0 : iX12 T k0) {g : zG} (r : (Unit × zS)) (h : fX12_opens_b30 T k0 x1 S = some r)  : zg g 1 mX12_opens T 30 [some (.ref k0), some (.int x1)] [] T S none T r.2 := by
  unfold fX12_opens_b30 at h
  refine z_aload_n dX12_opens_30 rfl ?_
  refine z_dup dX12_opens_31 rfl ?_
  refine z_gI (zF.x zfX12_263) h0.1 dX12_opens_32 ?_
  refine z_iconst dX12_opens_35 cI_1 ?_
  refine z_iadd dX12_opens_36 rfl ?_
  refine z_putI zfX12_263 h0.1 dX12_opens_37 ?_
  obtain ⟨S3, eS3, h⟩ := zlet_elim h
  refine z_tS eS3 ?_
  exact z_mask [true, true] rfl (tX12_opens_b40 T k0 x1 S3 h0 r h)
set_option maxHeartbeats 4000000 in
set_option maxRecDepth 100000 in
theorem tX12_opens_b12 (T : zT) (k0 : Nat) (x1 : Int32) (S : zS) (h0 : iX12 T k0) {g : zG} (r : (Unit × zS)) (h : fX12_opens_b12 T k0 x1 S = some r)  : zg g 1 mX12_opens T 12 [some (.ref k0), some (.int x1)] [] T S none T r.2 := by
  unfold fX12_opens_b12 at h
  refine z_aload_n dX12_opens_12 rfl ?_
  refine z_gI (zF.x zfX12_263) h0.1 dX12_opens_13 ?_
  refine z_bipush dX12_opens_16 cB_10 ?_
  refine z_icmp_ne (tgt := 30) dX12_opens_18 (by decide) (fun q2 => ?_) (fun q2 => ?_)
  · rw [if_neg q2] at h
    exact z_mask [true, true] rfl (tX12_opens_b30 T k0 x1 S h0 r h)
  · rw [if_pos q2] at h
    refine z_aload_n dX12_opens_21 rfl ?_
    refine z_iconst dX12_opens_22 cI_2 ?_
    refine z_aload_n dX12_opens_23 rfl ?_
    refine z_gI (zF.x zfX12_190) h0.1 dX12_opens_24 ?_
    obtain ⟨r7, S9, hc8, h⟩ := zb_elim h
    refine z_callV (As := [.int 2, .int (S.1 k0 2)]) zcX12 zkX12_226 ziX12_fails zqX12_fails h0.1 (tX12_fails T k0 2 (S.1 k0 2) S h0 (r7, S9) hc8) rfl rfl (Nat.le_of_ble_eq_true rfl) (by decide) ⟨Nat.le_refl _, Nat.le_refl _⟩ ⟨Nat.le_refl _, Nat.le_refl _⟩ dX12_opens_27 ?_
    exact z_mask [true, true] rfl (tX12_opens_b30 T k0 x1 S9 h0 r h)
set_option maxHeartbeats 4000000 in
set_option maxRecDepth 100000 in
theorem tX12_opens (T : zT) (k0 : Nat) (x1 : Int32) (S : zS) (h0 : iX12 T k0) (r : Unit × zS) (h : fX12_opens T k0 x1 S = some r) : zGM 1 mX12_opens [.ref k0, .int x1] T S none T r.2 := by
  refine zGM_of zpnX12 rfl (Nat.le_of_ble_eq_true rfl) (fun g => ?_)
  show zg g 1 mX12_opens T 0 [some (.ref k0), some (.int x1)] [] T S none T r.2
  unfold fX12_opens at h
  refine z_iload_n dX12_opens_0 rfl ?_
  refine z_bipush dX12_opens_1 cB_9 ?_
  refine z_icmp_eq (tgt := 12) dX12_opens_3 (by decide) (fun q1 => ?_) (fun q1 => ?_)
  · rw [if_pos q1] at h
    exact z_mask [true, true] rfl (tX12_opens_b12 T k0 x1 S h0 r h)
  · rw [if_neg q1] at h
    refine z_iload_n dX12_opens_6 rfl ?_
    refine z_bipush dX12_opens_7 cB_12 ?_
    refine z_icmp_ne (tgt := 40) dX12_opens_9 (by decide) (fun q10 => ?_) (fun q10 => ?_)
    · rw [if_neg q10] at h
      exact z_mask [true, true] rfl (tX12_opens_b40 T k0 x1 S h0 r h)
    · rw [if_pos q10] at h
      exact z_mask [true, true] rfl (tX12_opens_b12 T k0 x1 S h0 r h)
/-! X12_answers -/
noncomputable def fX12_answers_b47 (T : zT) (k0 : Nat) (x1 : Int32) (s0 : Int32) (s1 : Int32) (s2 : Nat) (S : zS) : Option (zS ⊕ zS) :=
  zlet (zI S s2 7 (s1 - s0)) fun S10 => some (.inl S10)
noncomputable def fX12_answers_l0 (T : zT) (k0 : Nat) (x1 : Int32)  (S : zS) : Option (zS ⊕ zS) :=
  zb1 (fX12_top T k0 S) fun r1 => if r1 = x1 then if (S.1 k0 3) = 0 then zb (fX12_entry T k0 x1 0 S) fun _ S7 => zlet (zI S7 k0 9 ((S7.1 k0 9) - 1)) fun S8 => if x1 = 9 then fX12_answers_b47 T k0 x1 1 (S8.1 k0 7) k0 S8 else fX12_answers_b47 T k0 x1 0 (S8.1 k0 7) k0 S8 else some (.inr S) else some (.inr S)
noncomputable def fX12_answers_b54 (T : zT)  (S : zS) : Option (Unit × zS) :=
  some ((), S)
noncomputable def fX12_answers (T : zT) (k0 : Nat) (x1 : Int32) (S : zS) : Option (Unit × zS) :=
  zb1 (lp (fun a => fX12_answers_l0 T k0 x1 a) S) fun e11 => fX12_answers_b54 T  e11
set_option maxHeartbeats 4000000 in
set_option maxRecDepth 100000 in
theorem tX12_answers_b47 (T : zT) (k0 : Nat) (x1 : Int32) (s0 : Int32) (s1 : Int32) (s2 : Nat) (S : zS) (h0 : iX12 T k0) (g2 : iX12 T s2) {g : zG} {v : Option Value} {S' : zS} (r : (zS ⊕ zS)) (h : fX12_answers_b47 T k0 x1 s0 s1 s2 S = some r) (K1 : ∀ a : zS, r = .inl a → zg g 1 mX12_answers T 0 [some (.ref k0), some (.int x1)] [] T a v T S') (K2_0 : ∀ e : zS, r = .inr e → zg g 1 mX12_answers T 54 [none, none] [] T e v T S') : zg g 1 mX12_answers T 47 [some (.ref k0), some (.int x1)] [.int s0, .int s1, .ref s2] T S v T S' := by
  unfold fX12_answers_b47 at h
  refine z_isub dX12_answers_47 rfl ?_
  refine z_putI zfX12_263 g2.1 dX12_answers_48 ?_
  obtain ⟨S10, eS10, h⟩ := zlet_elim h
  refine z_tS eS10 ?_
  refine z_goto (tgt := 0) dX12_answers_51 (by decide) ?_
  cases h
  exact z_mask [true, true] rfl (K1 _ rfl)
set_option maxHeartbeats 4000000 in
set_option maxRecDepth 100000 in
theorem tX12_answers_l0b (T : zT) (k0 : Nat) (x1 : Int32)  (S : zS) (h0 : iX12 T k0) {g : zG} {v : Option Value} {S' : zS} (r : zS ⊕ zS) (h : fX12_answers_l0 T k0 x1  S = some r) (K1 : ∀ a : zS, r = .inl a → zg g 1 mX12_answers T 0 [some (.ref k0), some (.int x1)] [] T a v T S') (K2_0 : ∀ e : zS, r = .inr e → zg g 1 mX12_answers T 54 [none, none] [] T e v T S') : zg g 1 mX12_answers T 0 [some (.ref k0), some (.int x1)] [] T S v T S' := by
  unfold fX12_answers_l0 at h
  refine z_aload_n dX12_answers_0 rfl ?_
  obtain ⟨r1, hc2, h⟩ := zb1_elim h
  refine z_callV (As := []) zcX12 zkX12_266 ziX12_top zqX12_top h0.1 (tX12_top T k0 S h0 r1 hc2) rfl rfl (Nat.le_of_ble_eq_true rfl) (by decide) ⟨Nat.le_refl _, Nat.le_refl _⟩ ⟨Nat.le_refl _, Nat.le_refl _⟩ dX12_answers_1 ?_
  refine z_iload_n dX12_answers_4 rfl ?_
  refine z_icmp_ne (tgt := 54) dX12_answers_5 (by decide) (fun q3 => ?_) (fun q3 => ?_)
  · rw [if_neg q3] at h
    cases h
    exact z_mask [false, false] rfl (K2_0 _ rfl)
  · rw [if_pos q3] at h
    refine z_aload_n dX12_answers_8 rfl ?_
    refine z_gI (zF.x zfX12_187) h0.1 dX12_answers_9 ?_
    refine z_if_ne (tgt := 54) dX12_answers_12 (by decide) (fun q4 => ?_) (fun q4 => ?_)
    · rw [if_neg q4] at h
      cases h
      exact z_mask [false, false] rfl (K2_0 _ rfl)
    · rw [if_pos q4] at h
      refine z_aload_n dX12_answers_15 rfl ?_
      refine z_iload_n dX12_answers_16 rfl ?_
      refine z_iconst dX12_answers_17 cI_0 ?_
      obtain ⟨r5, S7, hc6, h⟩ := zb_elim h
      refine z_callV (As := [.int x1, .int 0]) zcX12 zkX12_242 ziX12_entry zqX12_entry h0.1 (tX12_entry T k0 x1 0 S h0 (r5, S7) hc6) rfl rfl (Nat.le_of_ble_eq_true rfl) (by decide) ⟨Nat.le_refl _, Nat.le_refl _⟩ ⟨Nat.le_refl _, Nat.le_refl _⟩ dX12_answers_18 ?_
      refine z_aload_n dX12_answers_21 rfl ?_
      refine z_dup dX12_answers_22 rfl ?_
      refine z_gI (zF.x zfX12_260) h0.1 dX12_answers_23 ?_
      refine z_iconst dX12_answers_26 cI_1 ?_
      refine z_isub dX12_answers_27 rfl ?_
      refine z_putI zfX12_260 h0.1 dX12_answers_28 ?_
      obtain ⟨S8, eS8, h⟩ := zlet_elim h
      refine z_tS eS8 ?_
      refine z_aload_n dX12_answers_31 rfl ?_
      refine z_dup dX12_answers_32 rfl ?_
      refine z_gI (zF.x zfX12_263) h0.1 dX12_answers_33 ?_
      refine z_iload_n dX12_answers_36 rfl ?_
      refine z_bipush dX12_answers_37 cB_9 ?_
      refine z_icmp_ne (tgt := 46) dX12_answers_39 (by decide) (fun q9 => ?_) (fun q9 => ?_)
      · rw [if_neg q9] at h
        refine z_iconst dX12_answers_46 cI_0 ?_
        exact z_mask [true, true] rfl (tX12_answers_b47 T k0 x1 0 (S8.1 k0 7) k0 S8 h0 h0 r h K1 K2_0)
      · rw [if_pos q9] at h
        refine z_iconst dX12_answers_42 cI_1 ?_
        refine z_goto (tgt := 47) dX12_answers_43 (by decide) ?_
        exact z_mask [true, true] rfl (tX12_answers_b47 T k0 x1 1 (S8.1 k0 7) k0 S8 h0 h0 r h K1 K2_0)
set_option maxHeartbeats 4000000 in
set_option maxRecDepth 100000 in
theorem tX12_answers_l0 (T : zT) (k0 : Nat) (x1 : Int32) (h0 : iX12 T k0) {g : zG} {v : Option Value} {S' : zS} : ∀ (n : Nat) (a : zS) (e : zS), lpn (fun a => fX12_answers_l0 T k0 x1 a) n a = some e → (∀ e1 : zS, e = e1 → zg g 1 mX12_answers T 54 [none, none] [] T e1 v T S') → zg g 1 mX12_answers T 0 [some (.ref k0), some (.int x1)] [] T a v T S' := by
  intro n
  induction n with
  | zero =>
    intro a e h
    cases h
  | succ n ih =>
    intro a e h k0_
    rcases lpn_succ h with ⟨a1, ha_, hb_⟩ | ha_
    · exact tX12_answers_l0b T k0 x1 a h0 _ ha_ (fun a2 q => by cases q; exact ih a1 e hb_ k0_) (fun e1 q => by cases q)
    · exact tX12_answers_l0b T k0 x1 a h0 _ ha_ (fun a2 q => by cases q) (fun e1 q => by cases q; exact k0_ _ rfl)
set_option maxHeartbeats 4000000 in
set_option maxRecDepth 100000 in
theorem tX12_answers_b54 (T : zT)  (S : zS)  {g : zG} (r : (Unit × zS)) (h : fX12_answers_b54 T  S = some r)  : zg g 1 mX12_answers T 54 [none, none] [] T S none T r.2 := by
  unfold fX12_answers_b54 at h
  cases h
  exact z_vret rfl dX12_answers_54
set_option maxHeartbeats 4000000 in
set_option maxRecDepth 100000 in
theorem tX12_answers (T : zT) (k0 : Nat) (x1 : Int32) (S : zS) (h0 : iX12 T k0) (r : Unit × zS) (h : fX12_answers T k0 x1 S = some r) : zGM 1 mX12_answers [.ref k0, .int x1] T S none T r.2 := by
  refine zGM_of zpnX12 rfl (Nat.le_of_ble_eq_true rfl) (fun g => ?_)
  show zg g 1 mX12_answers T 0 [some (.ref k0), some (.int x1)] [] T S none T r.2
  unfold fX12_answers at h
  obtain ⟨e11, hl12, h⟩ := zb1_elim h
  obtain ⟨nf13, hl12⟩ := lp_some hl12
  refine z_mask [true, true] rfl (tX12_answers_l0 T k0 x1 h0 nf13 S e11 hl12 (fun e_ q => ?_))
  · cases q
    exact z_mask [false, false] rfl (tX12_answers_b54 T  e11  r h)
/-! X12_both -/
noncomputable def fX12_both_b105 (T : zT) (s0 : Int32) (S : zS) : Option Int64 :=
  zb1 (fX12_truth T s0 S) fun r5 => some r5
noncomputable def fX12_both_b120 (T : zT) (s0 : Int32) (S : zS) : Option Int64 :=
  zb1 (fX12_truth T s0 S) fun r9 => some r9
noncomputable def fX12_both_b135 (T : zT) (s0 : Int32) (S : zS) : Option Int64 :=
  zb1 (fX12_truth T s0 S) fun r13 => some r13
noncomputable def fX12_both_b150 (T : zT) (s0 : Int32) (S : zS) : Option Int64 :=
  zb1 (fX12_truth T s0 S) fun r17 => some r17
noncomputable def fX12_both_b165 (T : zT) (s0 : Int32) (S : zS) : Option Int64 :=
  zb1 (fX12_truth T s0 S) fun r21 => some r21
noncomputable def fX12_both_b173 (T : zT) (l1 : Int64) (l3 : Int64) (S : zS) : Option Int64 :=
  some (l1 ||| l3)
noncomputable def fX12_both_b93 (T : zT) (s0 : Int64) (S : zS) : Option Int64 :=
  some s0
noncomputable def fX12_both (T : zT) (x0 : Int32) (l1 : Int64) (l3 : Int64) (S : zS) : Option Int64 :=
  if x0 = 2 then some (l1 + l3) else if x0 = 3 then some (l1 - l3) else if x0 = 4 then if 0 ≤ (lg_cmp l1 l3) then fX12_both_b105 T 0 S else fX12_both_b105 T 1 S else if x0 = 5 then if 0 < (lg_cmp l1 l3) then fX12_both_b120 T 0 S else fX12_both_b120 T 1 S else if x0 = 6 then if (lg_cmp l1 l3) = 0 then fX12_both_b135 T 1 S else fX12_both_b135 T 0 S else if x0 = 7 then if (lg_cmp l1 l3) < 0 then fX12_both_b150 T 0 S else fX12_both_b150 T 1 S else if x0 = 8 then if (lg_cmp l1 l3) ≤ 0 then fX12_both_b165 T 0 S else fX12_both_b165 T 1 S else if x0 = 9 then fX12_both_b173 T l1 l3 S else if x0 = 10 then some (l1 &&& l3) else if x0 = 11 then fX12_both_b173 T l1 l3 S else if x0 = 12 then fX12_both_b173 T l1 l3 S else if x0 = 13 then some (l1 * l3) else if x0 = 14 then if (lg_cmp l3 0) = 0 then fX12_both_b93 T 0 S else zgd (zneL l3) (fX12_both_b93 T (l1 / l3) S) else fX12_both_b173 T l1 l3 S
set_option maxHeartbeats 4000000 in
set_option maxRecDepth 100000 in
theorem tX12_both_b105 (T : zT) (s0 : Int32) (S : zS)  {g : zG} (r : Int64) (h : fX12_both_b105 T s0 S = some r)  : zg g 1 mX12_both T 105 [none, none, none, none, none] [.int s0] T S (some (.long r)) T S := by
  unfold fX12_both_b105 at h
  obtain ⟨r5, hc6, h⟩ := zb1_elim h
  refine z_callS (As := [.int s0]) zkX12_363 zsX12_truth (tX12_truth T s0 S  r5 hc6) rfl rfl (Nat.le_of_ble_eq_true rfl) (by decide) ⟨Nat.le_refl _, Nat.le_refl _⟩ ⟨Nat.le_refl _, Nat.le_refl _⟩ dX12_both_105 ?_
  cases h
  exact z_lret rfl dX12_both_108
set_option maxHeartbeats 4000000 in
set_option maxRecDepth 100000 in
theorem tX12_both_b120 (T : zT) (s0 : Int32) (S : zS)  {g : zG} (r : Int64) (h : fX12_both_b120 T s0 S = some r)  : zg g 1 mX12_both T 120 [none, none, none, none, none] [.int s0] T S (some (.long r)) T S := by
  unfold fX12_both_b120 at h
  obtain ⟨r9, hc10, h⟩ := zb1_elim h
  refine z_callS (As := [.int s0]) zkX12_363 zsX12_truth (tX12_truth T s0 S  r9 hc10) rfl rfl (Nat.le_of_ble_eq_true rfl) (by decide) ⟨Nat.le_refl _, Nat.le_refl _⟩ ⟨Nat.le_refl _, Nat.le_refl _⟩ dX12_both_120 ?_
  cases h
  exact z_lret rfl dX12_both_123
set_option maxHeartbeats 4000000 in
set_option maxRecDepth 100000 in
theorem tX12_both_b135 (T : zT) (s0 : Int32) (S : zS)  {g : zG} (r : Int64) (h : fX12_both_b135 T s0 S = some r)  : zg g 1 mX12_both T 135 [none, none, none, none, none] [.int s0] T S (some (.long r)) T S := by
  unfold fX12_both_b135 at h
  obtain ⟨r13, hc14, h⟩ := zb1_elim h
  refine z_callS (As := [.int s0]) zkX12_363 zsX12_truth (tX12_truth T s0 S  r13 hc14) rfl rfl (Nat.le_of_ble_eq_true rfl) (by decide) ⟨Nat.le_refl _, Nat.le_refl _⟩ ⟨Nat.le_refl _, Nat.le_refl _⟩ dX12_both_135 ?_
  cases h
  exact z_lret rfl dX12_both_138
set_option maxHeartbeats 4000000 in
set_option maxRecDepth 100000 in
theorem tX12_both_b150 (T : zT) (s0 : Int32) (S : zS)  {g : zG} (r : Int64) (h : fX12_both_b150 T s0 S = some r)  : zg g 1 mX12_both T 150 [none, none, none, none, none] [.int s0] T S (some (.long r)) T S := by
  unfold fX12_both_b150 at h
  obtain ⟨r17, hc18, h⟩ := zb1_elim h
  refine z_callS (As := [.int s0]) zkX12_363 zsX12_truth (tX12_truth T s0 S  r17 hc18) rfl rfl (Nat.le_of_ble_eq_true rfl) (by decide) ⟨Nat.le_refl _, Nat.le_refl _⟩ ⟨Nat.le_refl _, Nat.le_refl _⟩ dX12_both_150 ?_
  cases h
  exact z_lret rfl dX12_both_153
set_option maxHeartbeats 4000000 in
set_option maxRecDepth 100000 in
theorem tX12_both_b165 (T : zT) (s0 : Int32) (S : zS)  {g : zG} (r : Int64) (h : fX12_both_b165 T s0 S = some r)  : zg g 1 mX12_both T 165 [none, none, none, none, none] [.int s0] T S (some (.long r)) T S := by
  unfold fX12_both_b165 at h
  obtain ⟨r21, hc22, h⟩ := zb1_elim h
  refine z_callS (As := [.int s0]) zkX12_363 zsX12_truth (tX12_truth T s0 S  r21 hc22) rfl rfl (Nat.le_of_ble_eq_true rfl) (by decide) ⟨Nat.le_refl _, Nat.le_refl _⟩ ⟨Nat.le_refl _, Nat.le_refl _⟩ dX12_both_165 ?_
  cases h
  exact z_lret rfl dX12_both_168
set_option maxHeartbeats 4000000 in
set_option maxRecDepth 100000 in
theorem tX12_both_b173 (T : zT) (l1 : Int64) (l3 : Int64) (S : zS)  {g : zG} (r : Int64) (h : fX12_both_b173 T l1 l3 S = some r)  : zg g 1 mX12_both T 173 [none, some (.long l1), none, some (.long l3), none] [] T S (some (.long r)) T S := by
  unfold fX12_both_b173 at h
  refine z_lload_n dX12_both_173 rfl ?_
  refine z_lload_n dX12_both_174 rfl ?_
  refine z_lor dX12_both_175 rfl ?_
  cases h
  exact z_lret rfl dX12_both_176
set_option maxHeartbeats 4000000 in
set_option maxRecDepth 100000 in
theorem tX12_both_b93 (T : zT) (s0 : Int64) (S : zS)  {g : zG} (r : Int64) (h : fX12_both_b93 T s0 S = some r)  : zg g 1 mX12_both T 93 [none, none, none, none, none] [.long s0] T S (some (.long r)) T S := by
  unfold fX12_both_b93 at h
  cases h
  exact z_lret rfl dX12_both_93
set_option maxHeartbeats 4000000 in
set_option maxRecDepth 100000 in
theorem tX12_both (T : zT) (x0 : Int32) (l1 : Int64) (l3 : Int64) (S : zS)  (r : Int64) (h : fX12_both T x0 l1 l3 S = some r) : zGM 1 mX12_both [.int x0, .long l1, .long l3] T S (some (.long r)) T S := by
  refine zGM_of zpnX12 rfl (Nat.le_of_ble_eq_true rfl) (fun g => ?_)
  show zg g 1 mX12_both T 0 [some (.int x0), some (.long l1), none, some (.long l3), none] [] T S (some (.long r)) T S
  unfold fX12_both at h
  refine z_iload_n dX12_both_0 rfl ?_
  by_cases q1 : x0 = 2
  · rw [if_pos q1] at h
    refine z_tableIn (off := 67) (tgt := 68) dX12_both_1 (by show ¬ x0.toInt < 2; rw [q1]; decide) (by show ¬ 14 < x0.toInt; rw [q1]; decide) (by rw [q1]; rfl) (by decide) ?_
    refine z_lload_n dX12_both_68 rfl ?_
    refine z_lload_n dX12_both_69 rfl ?_
    refine z_ladd dX12_both_70 rfl ?_
    cases h
    exact z_lret rfl dX12_both_71
  rw [if_neg q1] at h
  by_cases q2 : x0 = 3
  · rw [if_pos q2] at h
    refine z_tableIn (off := 71) (tgt := 72) dX12_both_1 (by show ¬ x0.toInt < 2; rw [q2]; decide) (by show ¬ 14 < x0.toInt; rw [q2]; decide) (by rw [q2]; rfl) (by decide) ?_
    refine z_lload_n dX12_both_72 rfl ?_
    refine z_lload_n dX12_both_73 rfl ?_
    refine z_lsub dX12_both_74 rfl ?_
    cases h
    exact z_lret rfl dX12_both_75
  rw [if_neg q2] at h
  by_cases q3 : x0 = 4
  · rw [if_pos q3] at h
    refine z_tableIn (off := 93) (tgt := 94) dX12_both_1 (by show ¬ x0.toInt < 2; rw [q3]; decide) (by show ¬ 14 < x0.toInt; rw [q3]; decide) (by rw [q3]; rfl) (by decide) ?_
    refine z_lload_n dX12_both_94 rfl ?_
    refine z_lload_n dX12_both_95 rfl ?_
    refine z_lcmp dX12_both_96 rfl ?_
    refine z_if_ge (tgt := 104) dX12_both_97 (by decide) (fun q4 => ?_) (fun q4 => ?_)
    · rw [if_pos q4] at h
      refine z_iconst dX12_both_104 cI_0 ?_
      exact z_mask [false, false, false, false, false] rfl (tX12_both_b105 T 0 S  r h)
    · rw [if_neg q4] at h
      refine z_iconst dX12_both_100 cI_1 ?_
      refine z_goto (tgt := 105) dX12_both_101 (by decide) ?_
      exact z_mask [false, false, false, false, false] rfl (tX12_both_b105 T 1 S  r h)
  rw [if_neg q3] at h
  by_cases q7 : x0 = 5
  · rw [if_pos q7] at h
    refine z_tableIn (off := 108) (tgt := 109) dX12_both_1 (by show ¬ x0.toInt < 2; rw [q7]; decide) (by show ¬ 14 < x0.toInt; rw [q7]; decide) (by rw [q7]; rfl) (by decide) ?_
    refine z_lload_n dX12_both_109 rfl ?_
    refine z_lload_n dX12_both_110 rfl ?_
    refine z_lcmp dX12_both_111 rfl ?_
    refine z_if_gt (tgt := 119) dX12_both_112 (by decide) (fun q8 => ?_) (fun q8 => ?_)
    · rw [if_pos q8] at h
      refine z_iconst dX12_both_119 cI_0 ?_
      exact z_mask [false, false, false, false, false] rfl (tX12_both_b120 T 0 S  r h)
    · rw [if_neg q8] at h
      refine z_iconst dX12_both_115 cI_1 ?_
      refine z_goto (tgt := 120) dX12_both_116 (by decide) ?_
      exact z_mask [false, false, false, false, false] rfl (tX12_both_b120 T 1 S  r h)
  rw [if_neg q7] at h
  by_cases q11 : x0 = 6
  · rw [if_pos q11] at h
    refine z_tableIn (off := 123) (tgt := 124) dX12_both_1 (by show ¬ x0.toInt < 2; rw [q11]; decide) (by show ¬ 14 < x0.toInt; rw [q11]; decide) (by rw [q11]; rfl) (by decide) ?_
    refine z_lload_n dX12_both_124 rfl ?_
    refine z_lload_n dX12_both_125 rfl ?_
    refine z_lcmp dX12_both_126 rfl ?_
    refine z_if_ne (tgt := 134) dX12_both_127 (by decide) (fun q12 => ?_) (fun q12 => ?_)
    · rw [if_neg q12] at h
      refine z_iconst dX12_both_134 cI_0 ?_
      exact z_mask [false, false, false, false, false] rfl (tX12_both_b135 T 0 S  r h)
    · rw [if_pos q12] at h
      refine z_iconst dX12_both_130 cI_1 ?_
      refine z_goto (tgt := 135) dX12_both_131 (by decide) ?_
      exact z_mask [false, false, false, false, false] rfl (tX12_both_b135 T 1 S  r h)
  rw [if_neg q11] at h
  by_cases q15 : x0 = 7
  · rw [if_pos q15] at h
    refine z_tableIn (off := 138) (tgt := 139) dX12_both_1 (by show ¬ x0.toInt < 2; rw [q15]; decide) (by show ¬ 14 < x0.toInt; rw [q15]; decide) (by rw [q15]; rfl) (by decide) ?_
    refine z_lload_n dX12_both_139 rfl ?_
    refine z_lload_n dX12_both_140 rfl ?_
    refine z_lcmp dX12_both_141 rfl ?_
    refine z_if_lt (tgt := 149) dX12_both_142 (by decide) (fun q16 => ?_) (fun q16 => ?_)
    · rw [if_pos q16] at h
      refine z_iconst dX12_both_149 cI_0 ?_
      exact z_mask [false, false, false, false, false] rfl (tX12_both_b150 T 0 S  r h)
    · rw [if_neg q16] at h
      refine z_iconst dX12_both_145 cI_1 ?_
      refine z_goto (tgt := 150) dX12_both_146 (by decide) ?_
      exact z_mask [false, false, false, false, false] rfl (tX12_both_b150 T 1 S  r h)
  rw [if_neg q15] at h
  by_cases q19 : x0 = 8
  · rw [if_pos q19] at h
    refine z_tableIn (off := 153) (tgt := 154) dX12_both_1 (by show ¬ x0.toInt < 2; rw [q19]; decide) (by show ¬ 14 < x0.toInt; rw [q19]; decide) (by rw [q19]; rfl) (by decide) ?_
    refine z_lload_n dX12_both_154 rfl ?_
    refine z_lload_n dX12_both_155 rfl ?_
    refine z_lcmp dX12_both_156 rfl ?_
    refine z_if_le (tgt := 164) dX12_both_157 (by decide) (fun q20 => ?_) (fun q20 => ?_)
    · rw [if_pos q20] at h
      refine z_iconst dX12_both_164 cI_0 ?_
      exact z_mask [false, false, false, false, false] rfl (tX12_both_b165 T 0 S  r h)
    · rw [if_neg q20] at h
      refine z_iconst dX12_both_160 cI_1 ?_
      refine z_goto (tgt := 165) dX12_both_161 (by decide) ?_
      exact z_mask [false, false, false, false, false] rfl (tX12_both_b165 T 1 S  r h)
  rw [if_neg q19] at h
  by_cases q23 : x0 = 9
  · rw [if_pos q23] at h
    refine z_tableIn (off := 172) (tgt := 173) dX12_both_1 (by show ¬ x0.toInt < 2; rw [q23]; decide) (by show ¬ 14 < x0.toInt; rw [q23]; decide) (by rw [q23]; rfl) (by decide) ?_
    exact z_mask [false, true, false, true, false] rfl (tX12_both_b173 T l1 l3 S  r h)
  rw [if_neg q23] at h
  by_cases q24 : x0 = 10
  · rw [if_pos q24] at h
    refine z_tableIn (off := 168) (tgt := 169) dX12_both_1 (by show ¬ x0.toInt < 2; rw [q24]; decide) (by show ¬ 14 < x0.toInt; rw [q24]; decide) (by rw [q24]; rfl) (by decide) ?_
    refine z_lload_n dX12_both_169 rfl ?_
    refine z_lload_n dX12_both_170 rfl ?_
    refine z_land dX12_both_171 rfl ?_
    cases h
    exact z_lret rfl dX12_both_172
  rw [if_neg q24] at h
  by_cases q25 : x0 = 11
  · rw [if_pos q25] at h
    refine z_tableIn (off := 172) (tgt := 173) dX12_both_1 (by show ¬ x0.toInt < 2; rw [q25]; decide) (by show ¬ 14 < x0.toInt; rw [q25]; decide) (by rw [q25]; rfl) (by decide) ?_
    exact z_mask [false, true, false, true, false] rfl (tX12_both_b173 T l1 l3 S  r h)
  rw [if_neg q25] at h
  by_cases q26 : x0 = 12
  · rw [if_pos q26] at h
    refine z_tableIn (off := 172) (tgt := 173) dX12_both_1 (by show ¬ x0.toInt < 2; rw [q26]; decide) (by show ¬ 14 < x0.toInt; rw [q26]; decide) (by rw [q26]; rfl) (by decide) ?_
    exact z_mask [false, true, false, true, false] rfl (tX12_both_b173 T l1 l3 S  r h)
  rw [if_neg q26] at h
  by_cases q27 : x0 = 13
  · rw [if_pos q27] at h
    refine z_tableIn (off := 75) (tgt := 76) dX12_both_1 (by show ¬ x0.toInt < 2; rw [q27]; decide) (by show ¬ 14 < x0.toInt; rw [q27]; decide) (by rw [q27]; rfl) (by decide) ?_
    refine z_lload_n dX12_both_76 rfl ?_
    refine z_lload_n dX12_both_77 rfl ?_
    refine z_lmul dX12_both_78 rfl ?_
    cases h
    exact z_lret rfl dX12_both_79
  rw [if_neg q27] at h
  by_cases q28 : x0 = 14
  · rw [if_pos q28] at h
    refine z_tableIn (off := 79) (tgt := 80) dX12_both_1 (by show ¬ x0.toInt < 2; rw [q28]; decide) (by show ¬ 14 < x0.toInt; rw [q28]; decide) (by rw [q28]; rfl) (by decide) ?_
    refine z_lload_n dX12_both_80 rfl ?_
    refine z_lconst (r := 0) dX12_both_81 rfl ?_
    refine z_lcmp dX12_both_82 rfl ?_
    refine z_if_ne (tgt := 90) dX12_both_83 (by decide) (fun q29 => ?_) (fun q29 => ?_)
    · rw [if_neg q29] at h
      refine z_lload_n dX12_both_90 rfl ?_
      refine z_lload_n dX12_both_91 rfl ?_
      obtain ⟨q30, h⟩ := zgd_elim h
      refine z_ldiv dX12_both_92 (zneL_ok q30) rfl ?_
      exact z_mask [false, false, false, false, false] rfl (tX12_both_b93 T (l1 / l3) S  r h)
    · rw [if_pos q29] at h
      refine z_lconst (r := 0) dX12_both_86 rfl ?_
      refine z_goto (tgt := 93) dX12_both_87 (by decide) ?_
      exact z_mask [false, false, false, false, false] rfl (tX12_both_b93 T 0 S  r h)
  rw [if_neg q28] at h
  have q1i : ¬ x0.toInt = 2 := zneI q1 (by decide)
  have q2i : ¬ x0.toInt = 3 := zneI q2 (by decide)
  have q3i : ¬ x0.toInt = 4 := zneI q3 (by decide)
  have q7i : ¬ x0.toInt = 5 := zneI q7 (by decide)
  have q11i : ¬ x0.toInt = 6 := zneI q11 (by decide)
  have q15i : ¬ x0.toInt = 7 := zneI q15 (by decide)
  have q19i : ¬ x0.toInt = 8 := zneI q19 (by decide)
  have q23i : ¬ x0.toInt = 9 := zneI q23 (by decide)
  have q24i : ¬ x0.toInt = 10 := zneI q24 (by decide)
  have q25i : ¬ x0.toInt = 11 := zneI q25 (by decide)
  have q26i : ¬ x0.toInt = 12 := zneI q26 (by decide)
  have q27i : ¬ x0.toInt = 13 := zneI q27 (by decide)
  have q28i : ¬ x0.toInt = 14 := zneI q28 (by decide)
  refine z_tableOut (tgt := 173) dX12_both_1 (by show x0.toInt < 2 ∨ 14 < x0.toInt; omega) (by decide) ?_
  exact z_mask [false, true, false, true, false] rfl (tX12_both_b173 T l1 l3 S  r h)
/-! X12_has -/
noncomputable def fX12_has_b27 (T : zT) (s0 : Int32) (S : zS) : Option Int32 :=
  zgd (zbl s0) (some s0)
noncomputable def fX12_has_b26 (T : zT)  (S : zS) : Option Int32 :=
  fX12_has_b27 T 0 S
noncomputable def fX12_has (T : zT) (k0 : Nat) (x1 : Int32) (S : zS) : Option Int32 :=
  zb1 (fX12_in T ((x1 : Int32).toInt64) 0 7 S) fun r1 => if r1 = 0 then fX12_has_b26 T  S else zgd (zin x1 16) (if (S.1 (zr T k0 22) (x1 : Int32).toNatClampNeg) = 1 then fX12_has_b27 T 1 S else fX12_has_b26 T  S)
set_option maxHeartbeats 4000000 in
set_option maxRecDepth 100000 in
theorem tX12_has_b27 (T : zT) (s0 : Int32) (S : zS)  {g : zG} (r : Int32) (h : fX12_has_b27 T s0 S = some r)  : zg g 1 mX12_has T 27 [none, none] [.int s0] T S (some (.int r)) T S := by
  unfold fX12_has_b27 at h
  obtain ⟨q4, h⟩ := zgd_elim h
  cases h
  exact z_zret rfl (zbl_ok q4) dX12_has_27
set_option maxHeartbeats 4000000 in
set_option maxRecDepth 100000 in
theorem tX12_has_b26 (T : zT)  (S : zS)  {g : zG} (r : Int32) (h : fX12_has_b26 T  S = some r)  : zg g 1 mX12_has T 26 [none, none] [] T S (some (.int r)) T S := by
  unfold fX12_has_b26 at h
  refine z_iconst dX12_has_26 cI_0 ?_
  exact z_mask [false, false] rfl (tX12_has_b27 T 0 S  r h)
set_option maxHeartbeats 4000000 in
set_option maxRecDepth 100000 in
theorem tX12_has (T : zT) (k0 : Nat) (x1 : Int32) (S : zS) (h0 : iX12 T k0) (r : Int32) (h : fX12_has T k0 x1 S = some r) : zGM 1 mX12_has [.ref k0, .int x1] T S (some (.int r)) T S := by
  refine zGM_of zpnX12 rfl (Nat.le_of_ble_eq_true rfl) (fun g => ?_)
  show zg g 1 mX12_has T 0 [some (.ref k0), some (.int x1)] [] T S (some (.int r)) T S
  unfold fX12_has at h
  refine z_iload_n dX12_has_0 rfl ?_
  refine z_i2l dX12_has_1 rfl ?_
  refine z_lconst (r := 0) dX12_has_2 rfl ?_
  refine z_ldc2 znX12_371 dX12_has_3 ?_
  obtain ⟨r1, hc2, h⟩ := zb1_elim h
  refine z_callS (As := [.long ((x1 : Int32).toInt64), .long 0, .long 7]) zkX12_201 zsX12_in (tX12_in T ((x1 : Int32).toInt64) 0 7 S  r1 hc2) rfl rfl (Nat.le_of_ble_eq_true rfl) (by decide) ⟨Nat.le_refl _, Nat.le_refl _⟩ ⟨Nat.le_refl _, Nat.le_refl _⟩ dX12_has_6 ?_
  refine z_if_eq (tgt := 26) dX12_has_9 (by decide) (fun q3 => ?_) (fun q3 => ?_)
  · rw [if_pos q3] at h
    exact z_mask [false, false] rfl (tX12_has_b26 T  S  r h)
  · rw [if_neg q3] at h
    refine z_aload_n dX12_has_12 rfl ?_
    refine z_gA (zF.x zfX12_44) h0.1 dX12_has_13 ?_
    refine z_iload_n dX12_has_16 rfl ?_
    obtain ⟨q5, h⟩ := zgd_elim h
    refine z_iald h0.2.2.2.2.2.2.2.2.2.2.2.2.1 (zin_ok q5) dX12_has_17 ?_
    refine z_iconst dX12_has_18 cI_1 ?_
    refine z_icmp_ne (tgt := 26) dX12_has_19 (by decide) (fun q6 => ?_) (fun q6 => ?_)
    · rw [if_neg q6] at h
      exact z_mask [false, false] rfl (tX12_has_b26 T  S  r h)
    · rw [if_pos q6] at h
      refine z_iconst dX12_has_22 cI_1 ?_
      refine z_goto (tgt := 27) dX12_has_23 (by decide) ?_
      exact z_mask [false, false] rfl (tX12_has_b27 T 1 S  r h)
/-! X12_isWeek -/
noncomputable def fX12_isWeek (T : zT) (x0 : Int32) (S : zS) : Option Int32 :=
  zb1 (fX12_in T ((x0 : Int32).toInt64) 0 60 S) fun r1 => zgd (zbl r1) (some r1)
set_option maxHeartbeats 4000000 in
set_option maxRecDepth 100000 in
theorem tX12_isWeek (T : zT) (x0 : Int32) (S : zS)  (r : Int32) (h : fX12_isWeek T x0 S = some r) : zGM 1 mX12_isWeek [.int x0] T S (some (.int r)) T S := by
  refine zGM_of zpnX12 rfl (Nat.le_of_ble_eq_true rfl) (fun g => ?_)
  show zg g 1 mX12_isWeek T 0 [some (.int x0)] [] T S (some (.int r)) T S
  unfold fX12_isWeek at h
  refine z_iload_n dX12_isWeek_0 rfl ?_
  refine z_i2l dX12_isWeek_1 rfl ?_
  refine z_lconst (r := 0) dX12_isWeek_2 rfl ?_
  refine z_ldc2 znX12_373 dX12_isWeek_3 ?_
  obtain ⟨r1, hc2, h⟩ := zb1_elim h
  refine z_callS (As := [.long ((x0 : Int32).toInt64), .long 0, .long 60]) zkX12_201 zsX12_in (tX12_in T ((x0 : Int32).toInt64) 0 60 S  r1 hc2) rfl rfl (Nat.le_of_ble_eq_true rfl) (by decide) ⟨Nat.le_refl _, Nat.le_refl _⟩ ⟨Nat.le_refl _, Nat.le_refl _⟩ dX12_isWeek_6 ?_
  obtain ⟨q3, h⟩ := zgd_elim h
  cases h
  exact z_zret rfl (zbl_ok q3) dX12_isWeek_9
/-! X12_isOfBook -/
noncomputable def fX12_isOfBook (T : zT) (k0 : Nat) (x1 : Int32) (S : zS) : Option Int32 :=
  zgd (zin 0 2) (zb1 (fX12_in T ((x1 : Int32).toInt64) 0 ((((S.1 (zr T k0 33) (0 : Int32).toNatClampNeg) - 1) : Int32).toInt64) S) fun r2 => zgd (zbl r2) (some r2))
set_option maxHeartbeats 4000000 in
set_option maxRecDepth 100000 in
theorem tX12_isOfBook (T : zT) (k0 : Nat) (x1 : Int32) (S : zS) (h0 : iX12 T k0) (r : Int32) (h : fX12_isOfBook T k0 x1 S = some r) : zGM 1 mX12_isOfBook [.ref k0, .int x1] T S (some (.int r)) T S := by
  refine zGM_of zpnX12 rfl (Nat.le_of_ble_eq_true rfl) (fun g => ?_)
  show zg g 1 mX12_isOfBook T 0 [some (.ref k0), some (.int x1)] [] T S (some (.int r)) T S
  unfold fX12_isOfBook at h
  refine z_iload_n dX12_isOfBook_0 rfl ?_
  refine z_i2l dX12_isOfBook_1 rfl ?_
  refine z_lconst (r := 0) dX12_isOfBook_2 rfl ?_
  refine z_aload_n dX12_isOfBook_3 rfl ?_
  refine z_gA (zF.x zfX12_77) h0.1 dX12_isOfBook_4 ?_
  refine z_iconst dX12_isOfBook_7 cI_0 ?_
  obtain ⟨q1, h⟩ := zgd_elim h
  refine z_iald h0.2.2.2.2.2.2.2.2.2.2.2.2.2.2.2.2.2.2.2.2.2.2.2.1 (zin_ok q1) dX12_isOfBook_8 ?_
  refine z_iconst dX12_isOfBook_9 cI_1 ?_
  refine z_isub dX12_isOfBook_10 rfl ?_
  refine z_i2l dX12_isOfBook_11 rfl ?_
  obtain ⟨r2, hc3, h⟩ := zb1_elim h
  refine z_callS (As := [.long ((x1 : Int32).toInt64), .long 0, .long ((((S.1 (zr T k0 33) (0 : Int32).toNatClampNeg) - 1) : Int32).toInt64)]) zkX12_201 zsX12_in (tX12_in T ((x1 : Int32).toInt64) 0 ((((S.1 (zr T k0 33) (0 : Int32).toNatClampNeg) - 1) : Int32).toInt64) S  r2 hc3) rfl rfl (Nat.le_of_ble_eq_true rfl) (by decide) ⟨Nat.le_refl _, Nat.le_refl _⟩ ⟨Nat.le_refl _, Nat.le_refl _⟩ dX12_isOfBook_12 ?_
  obtain ⟨q4, h⟩ := zgd_elim h
  cases h
  exact z_zret rfl (zbl_ok q4) dX12_isOfBook_15
/-! X12_count -/
noncomputable def fX12_count (T : zT) (k0 : Nat) (x1 : Int32) (S : zS) : Option Int32 :=
  if x1 = 0 then zb1 (fX12_all T k0 S) fun r2 => some r2 else if x1 = 1 then zgd (zin 0 2) (some (S.1 (zr T k0 33) (0 : Int32).toNatClampNeg)) else if x1 = 2 then zgd (zin 0 2) (some (S.1 (zr T k0 32) (0 : Int32).toNatClampNeg)) else if x1 = 3 then zgd (zin 0 2) (some (S.1 (zr T k0 29) (0 : Int32).toNatClampNeg)) else if x1 = 4 then zgd (zin 0 2) (some (S.1 (zr T k0 30) (0 : Int32).toNatClampNeg)) else if x1 = 5 then zgd (zin 0 2) (some (S.1 (zr T k0 31) (0 : Int32).toNatClampNeg)) else if x1 = 6 then zb1 (fX12_clausesOf T k0 1 S) fun r15 => some r15 else if x1 = 7 then zb1 (fX12_clausesOf T k0 2 S) fun r18 => some r18 else if x1 = 8 then some (S.1 k0 5) else if x1 = 9 then some (S.1 k0 36) else if x1 = 10 then some (S.1 k0 1) else some (-2)
set_option maxHeartbeats 4000000 in
set_option maxRecDepth 100000 in
theorem tX12_count (T : zT) (k0 : Nat) (x1 : Int32) (S : zS) (h0 : iX12 T k0) (r : Int32) (h : fX12_count T k0 x1 S = some r) : zGM 1 mX12_count [.ref k0, .int x1] T S (some (.int r)) T S := by
  refine zGM_of zpnX12 rfl (Nat.le_of_ble_eq_true rfl) (fun g => ?_)
  show zg g 1 mX12_count T 0 [some (.ref k0), some (.int x1)] [] T S (some (.int r)) T S
  unfold fX12_count at h
  refine z_iload_n dX12_count_0 rfl ?_
  by_cases q1 : x1 = 0
  · rw [if_pos q1] at h
    refine z_tableIn (off := 59) (tgt := 60) dX12_count_1 (by show ¬ x1.toInt < 0; rw [q1]; decide) (by show ¬ 10 < x1.toInt; rw [q1]; decide) (by rw [q1]; rfl) (by decide) ?_
    refine z_aload_n dX12_count_60 rfl ?_
    obtain ⟨r2, hc3, h⟩ := zb1_elim h
    refine z_callV (As := []) zcX12 zkX12_354 ziX12_all zqX12_all h0.1 (tX12_all T k0 S h0 r2 hc3) rfl rfl (Nat.le_of_ble_eq_true rfl) (by decide) ⟨Nat.le_refl _, Nat.le_refl _⟩ ⟨Nat.le_refl _, Nat.le_refl _⟩ dX12_count_61 ?_
    cases h
    exact z_iret rfl dX12_count_64
  rw [if_neg q1] at h
  by_cases q4 : x1 = 1
  · rw [if_pos q4] at h
    refine z_tableIn (off := 64) (tgt := 65) dX12_count_1 (by show ¬ x1.toInt < 0; rw [q4]; decide) (by show ¬ 10 < x1.toInt; rw [q4]; decide) (by rw [q4]; rfl) (by decide) ?_
    refine z_aload_n dX12_count_65 rfl ?_
    refine z_gA (zF.x zfX12_77) h0.1 dX12_count_66 ?_
    refine z_iconst dX12_count_69 cI_0 ?_
    obtain ⟨q5, h⟩ := zgd_elim h
    refine z_iald h0.2.2.2.2.2.2.2.2.2.2.2.2.2.2.2.2.2.2.2.2.2.2.2.1 (zin_ok q5) dX12_count_70 ?_
    cases h
    exact z_iret rfl dX12_count_71
  rw [if_neg q4] at h
  by_cases q6 : x1 = 2
  · rw [if_pos q6] at h
    refine z_tableIn (off := 71) (tgt := 72) dX12_count_1 (by show ¬ x1.toInt < 0; rw [q6]; decide) (by show ¬ 10 < x1.toInt; rw [q6]; decide) (by rw [q6]; rfl) (by decide) ?_
    refine z_aload_n dX12_count_72 rfl ?_
    refine z_gA (zF.x zfX12_74) h0.1 dX12_count_73 ?_
    refine z_iconst dX12_count_76 cI_0 ?_
    obtain ⟨q7, h⟩ := zgd_elim h
    refine z_iald h0.2.2.2.2.2.2.2.2.2.2.2.2.2.2.2.2.2.2.2.2.2.2.1 (zin_ok q7) dX12_count_77 ?_
    cases h
    exact z_iret rfl dX12_count_78
  rw [if_neg q6] at h
  by_cases q8 : x1 = 3
  · rw [if_pos q8] at h
    refine z_tableIn (off := 78) (tgt := 79) dX12_count_1 (by show ¬ x1.toInt < 0; rw [q8]; decide) (by show ¬ 10 < x1.toInt; rw [q8]; decide) (by rw [q8]; rfl) (by decide) ?_
    refine z_aload_n dX12_count_79 rfl ?_
    refine z_gA (zF.x zfX12_65) h0.1 dX12_count_80 ?_
    refine z_iconst dX12_count_83 cI_0 ?_
    obtain ⟨q9, h⟩ := zgd_elim h
    refine z_iald h0.2.2.2.2.2.2.2.2.2.2.2.2.2.2.2.2.2.2.2.1 (zin_ok q9) dX12_count_84 ?_
    cases h
    exact z_iret rfl dX12_count_85
  rw [if_neg q8] at h
  by_cases q10 : x1 = 4
  · rw [if_pos q10] at h
    refine z_tableIn (off := 85) (tgt := 86) dX12_count_1 (by show ¬ x1.toInt < 0; rw [q10]; decide) (by show ¬ 10 < x1.toInt; rw [q10]; decide) (by rw [q10]; rfl) (by decide) ?_
    refine z_aload_n dX12_count_86 rfl ?_
    refine z_gA (zF.x zfX12_68) h0.1 dX12_count_87 ?_
    refine z_iconst dX12_count_90 cI_0 ?_
    obtain ⟨q11, h⟩ := zgd_elim h
    refine z_iald h0.2.2.2.2.2.2.2.2.2.2.2.2.2.2.2.2.2.2.2.2.1 (zin_ok q11) dX12_count_91 ?_
    cases h
    exact z_iret rfl dX12_count_92
  rw [if_neg q10] at h
  by_cases q12 : x1 = 5
  · rw [if_pos q12] at h
    refine z_tableIn (off := 92) (tgt := 93) dX12_count_1 (by show ¬ x1.toInt < 0; rw [q12]; decide) (by show ¬ 10 < x1.toInt; rw [q12]; decide) (by rw [q12]; rfl) (by decide) ?_
    refine z_aload_n dX12_count_93 rfl ?_
    refine z_gA (zF.x zfX12_71) h0.1 dX12_count_94 ?_
    refine z_iconst dX12_count_97 cI_0 ?_
    obtain ⟨q13, h⟩ := zgd_elim h
    refine z_iald h0.2.2.2.2.2.2.2.2.2.2.2.2.2.2.2.2.2.2.2.2.2.1 (zin_ok q13) dX12_count_98 ?_
    cases h
    exact z_iret rfl dX12_count_99
  rw [if_neg q12] at h
  by_cases q14 : x1 = 6
  · rw [if_pos q14] at h
    refine z_tableIn (off := 99) (tgt := 100) dX12_count_1 (by show ¬ x1.toInt < 0; rw [q14]; decide) (by show ¬ 10 < x1.toInt; rw [q14]; decide) (by rw [q14]; rfl) (by decide) ?_
    refine z_aload_n dX12_count_100 rfl ?_
    refine z_iconst dX12_count_101 cI_1 ?_
    obtain ⟨r15, hc16, h⟩ := zb1_elim h
    refine z_callV (As := [.int 1]) zcX12 zkX12_379 ziX12_clausesOf zqX12_clausesOf h0.1 (tX12_clausesOf T k0 1 S h0 r15 hc16) rfl rfl (Nat.le_of_ble_eq_true rfl) (by decide) ⟨Nat.le_refl _, Nat.le_refl _⟩ ⟨Nat.le_refl _, Nat.le_refl _⟩ dX12_count_102 ?_
    cases h
    exact z_iret rfl dX12_count_105
  rw [if_neg q14] at h
  by_cases q17 : x1 = 7
  · rw [if_pos q17] at h
    refine z_tableIn (off := 105) (tgt := 106) dX12_count_1 (by show ¬ x1.toInt < 0; rw [q17]; decide) (by show ¬ 10 < x1.toInt; rw [q17]; decide) (by rw [q17]; rfl) (by decide) ?_
    refine z_aload_n dX12_count_106 rfl ?_
    refine z_iconst dX12_count_107 cI_2 ?_
    obtain ⟨r18, hc19, h⟩ := zb1_elim h
    refine z_callV (As := [.int 2]) zcX12 zkX12_379 ziX12_clausesOf zqX12_clausesOf h0.1 (tX12_clausesOf T k0 2 S h0 r18 hc19) rfl rfl (Nat.le_of_ble_eq_true rfl) (by decide) ⟨Nat.le_refl _, Nat.le_refl _⟩ ⟨Nat.le_refl _, Nat.le_refl _⟩ dX12_count_108 ?_
    cases h
    exact z_iret rfl dX12_count_111
  rw [if_neg q17] at h
  by_cases q20 : x1 = 8
  · rw [if_pos q20] at h
    refine z_tableIn (off := 111) (tgt := 112) dX12_count_1 (by show ¬ x1.toInt < 0; rw [q20]; decide) (by show ¬ 10 < x1.toInt; rw [q20]; decide) (by rw [q20]; rfl) (by decide) ?_
    refine z_aload_n dX12_count_112 rfl ?_
    refine z_gI (zF.x zfX12_360) h0.1 dX12_count_113 ?_
    cases h
    exact z_iret rfl dX12_count_116
  rw [if_neg q20] at h
  by_cases q21 : x1 = 9
  · rw [if_pos q21] at h
    refine z_tableIn (off := 116) (tgt := 117) dX12_count_1 (by show ¬ x1.toInt < 0; rw [q21]; decide) (by show ¬ 10 < x1.toInt; rw [q21]; decide) (by rw [q21]; rfl) (by decide) ?_
    refine z_aload_n dX12_count_117 rfl ?_
    refine z_gI (zF.x zfX12_351) h0.1 dX12_count_118 ?_
    cases h
    exact z_iret rfl dX12_count_121
  rw [if_neg q21] at h
  by_cases q22 : x1 = 10
  · rw [if_pos q22] at h
    refine z_tableIn (off := 121) (tgt := 122) dX12_count_1 (by show ¬ x1.toInt < 0; rw [q22]; decide) (by show ¬ 10 < x1.toInt; rw [q22]; decide) (by rw [q22]; rfl) (by decide) ?_
    refine z_aload_n dX12_count_122 rfl ?_
    refine z_gI (zF.x zfX12_147) h0.1 dX12_count_123 ?_
    cases h
    exact z_iret rfl dX12_count_126
  rw [if_neg q22] at h
  have q1i : ¬ x1.toInt = 0 := zneI q1 (by decide)
  have q4i : ¬ x1.toInt = 1 := zneI q4 (by decide)
  have q6i : ¬ x1.toInt = 2 := zneI q6 (by decide)
  have q8i : ¬ x1.toInt = 3 := zneI q8 (by decide)
  have q10i : ¬ x1.toInt = 4 := zneI q10 (by decide)
  have q12i : ¬ x1.toInt = 5 := zneI q12 (by decide)
  have q14i : ¬ x1.toInt = 6 := zneI q14 (by decide)
  have q17i : ¬ x1.toInt = 7 := zneI q17 (by decide)
  have q20i : ¬ x1.toInt = 8 := zneI q20 (by decide)
  have q21i : ¬ x1.toInt = 9 := zneI q21 (by decide)
  have q22i : ¬ x1.toInt = 10 := zneI q22 (by decide)
  refine z_tableOut (tgt := 127) dX12_count_1 (by show x1.toInt < 0 ∨ 10 < x1.toInt; omega) (by decide) ?_
  refine z_bipush dX12_count_127 cB_m2 ?_
  cases h
  exact z_iret rfl dX12_count_129
/-! X12_isSet -/
noncomputable def fX12_isSet_b20 (T : zT) (s0 : Int32) (S : zS) : Option Int32 :=
  zgd (zbl s0) (some s0)
noncomputable def fX12_isSet_b19 (T : zT)  (S : zS) : Option Int32 :=
  fX12_isSet_b20 T 0 S
noncomputable def fX12_isSet (T : zT) (k0 : Nat) (x1 : Int32) (S : zS) : Option Int32 :=
  if x1 < 0 then fX12_isSet_b19 T  S else zb1 (fX12_all T k0 S) fun r3 => if (x1 &&& (r3 ^^^ (-1))) = 0 then fX12_isSet_b20 T 1 S else fX12_isSet_b19 T  S
set_option maxHeartbeats 4000000 in
set_option maxRecDepth 100000 in
theorem tX12_isSet_b20 (T : zT) (s0 : Int32) (S : zS)  {g : zG} (r : Int32) (h : fX12_isSet_b20 T s0 S = some r)  : zg g 1 mX12_isSet T 20 [none, none] [.int s0] T S (some (.int r)) T S := by
  unfold fX12_isSet_b20 at h
  obtain ⟨q2, h⟩ := zgd_elim h
  cases h
  exact z_zret rfl (zbl_ok q2) dX12_isSet_20
set_option maxHeartbeats 4000000 in
set_option maxRecDepth 100000 in
theorem tX12_isSet_b19 (T : zT)  (S : zS)  {g : zG} (r : Int32) (h : fX12_isSet_b19 T  S = some r)  : zg g 1 mX12_isSet T 19 [none, none] [] T S (some (.int r)) T S := by
  unfold fX12_isSet_b19 at h
  refine z_iconst dX12_isSet_19 cI_0 ?_
  exact z_mask [false, false] rfl (tX12_isSet_b20 T 0 S  r h)
set_option maxHeartbeats 4000000 in
set_option maxRecDepth 100000 in
theorem tX12_isSet (T : zT) (k0 : Nat) (x1 : Int32) (S : zS) (h0 : iX12 T k0) (r : Int32) (h : fX12_isSet T k0 x1 S = some r) : zGM 1 mX12_isSet [.ref k0, .int x1] T S (some (.int r)) T S := by
  refine zGM_of zpnX12 rfl (Nat.le_of_ble_eq_true rfl) (fun g => ?_)
  show zg g 1 mX12_isSet T 0 [some (.ref k0), some (.int x1)] [] T S (some (.int r)) T S
  unfold fX12_isSet at h
  refine z_iload_n dX12_isSet_0 rfl ?_
  refine z_if_lt (tgt := 19) dX12_isSet_1 (by decide) (fun q1 => ?_) (fun q1 => ?_)
  · rw [if_pos q1] at h
    exact z_mask [false, false] rfl (tX12_isSet_b19 T  S  r h)
  · rw [if_neg q1] at h
    refine z_iload_n dX12_isSet_4 rfl ?_
    refine z_aload_n dX12_isSet_5 rfl ?_
    obtain ⟨r3, hc4, h⟩ := zb1_elim h
    refine z_callV (As := []) zcX12 zkX12_354 ziX12_all zqX12_all h0.1 (tX12_all T k0 S h0 r3 hc4) rfl rfl (Nat.le_of_ble_eq_true rfl) (by decide) ⟨Nat.le_refl _, Nat.le_refl _⟩ ⟨Nat.le_refl _, Nat.le_refl _⟩ dX12_isSet_6 ?_
    refine z_iconst dX12_isSet_9 cI_m1 ?_
    refine z_ixor dX12_isSet_10 rfl ?_
    refine z_iand dX12_isSet_11 rfl ?_
    refine z_if_ne (tgt := 19) dX12_isSet_12 (by decide) (fun q5 => ?_) (fun q5 => ?_)
    · rw [if_neg q5] at h
      exact z_mask [false, false] rfl (tX12_isSet_b19 T  S  r h)
    · rw [if_pos q5] at h
      refine z_iconst dX12_isSet_15 cI_1 ?_
      refine z_goto (tgt := 20) dX12_isSet_16 (by decide) ?_
      exact z_mask [false, false] rfl (tX12_isSet_b20 T 1 S  r h)
/-! X12_row -/
noncomputable def fX12_row (T : zT) (k0 : Nat) (x1 : Int32) (S : zS) : Option (Int32 × zS) :=
  zb1 (fX12_in T ((x1 : Int32).toInt64) 0 (((S.1 k0 36) : Int32).toInt64) S) fun r1 => if r1 = 0 then some (0, S) else zlet (zI S k0 36 x1) fun S4 => some (1, S4)
set_option maxHeartbeats 4000000 in
set_option maxRecDepth 100000 in
theorem tX12_row (T : zT) (k0 : Nat) (x1 : Int32) (S : zS) (h0 : iX12 T k0) (r : Int32 × zS) (h : fX12_row T k0 x1 S = some r) : zGM 1 mX12_row [.ref k0, .int x1] T S (some (.int r.1)) T r.2 := by
  refine zGM_of zpnX12 rfl (Nat.le_of_ble_eq_true rfl) (fun g => ?_)
  show zg g 1 mX12_row T 0 [some (.ref k0), some (.int x1)] [] T S (some (.int r.1)) T r.2
  unfold fX12_row at h
  refine z_iload_n dX12_row_0 rfl ?_
  refine z_i2l dX12_row_1 rfl ?_
  refine z_lconst (r := 0) dX12_row_2 rfl ?_
  refine z_aload_n dX12_row_3 rfl ?_
  refine z_gI (zF.x zfX12_351) h0.1 dX12_row_4 ?_
  refine z_i2l dX12_row_7 rfl ?_
  obtain ⟨r1, hc2, h⟩ := zb1_elim h
  refine z_callS (As := [.long ((x1 : Int32).toInt64), .long 0, .long (((S.1 k0 36) : Int32).toInt64)]) zkX12_201 zsX12_in (tX12_in T ((x1 : Int32).toInt64) 0 (((S.1 k0 36) : Int32).toInt64) S  r1 hc2) rfl rfl (Nat.le_of_ble_eq_true rfl) (by decide) ⟨Nat.le_refl _, Nat.le_refl _⟩ ⟨Nat.le_refl _, Nat.le_refl _⟩ dX12_row_8 ?_
  refine z_if_ne (tgt := 16) dX12_row_11 (by decide) (fun q3 => ?_) (fun q3 => ?_)
  · rw [if_neg q3] at h
    refine z_aload_n dX12_row_16 rfl ?_
    refine z_iload_n dX12_row_17 rfl ?_
    refine z_putI zfX12_351 h0.1 dX12_row_18 ?_
    obtain ⟨S4, eS4, h⟩ := zlet_elim h
    refine z_tS eS4 ?_
    refine z_iconst dX12_row_21 cI_1 ?_
    cases h
    exact z_zret rfl (Or.inr rfl) dX12_row_22
  · rw [if_pos q3] at h
    refine z_iconst dX12_row_14 cI_0 ?_
    cases h
    exact z_zret rfl (Or.inl rfl) dX12_row_15
/-! X12_does -/
noncomputable def fX12_does_b205 (T : zT)  (S : zS) : Option (Int32 × zS) :=
  some (0, S)
noncomputable def fX12_does_b376 (T : zT)  (S : zS) : Option (Int32 × zS) :=
  some (1, S)
noncomputable def fX12_does_b283 (T : zT) (k0 : Nat) (x2 : Int32) (x3 : Int32) (x4 : Int32) (x5 : Int32) (s0 : Int32) (s1 : Int32) (s2 : Nat) (m2 : Nat) (S : zS) : Option (Int32 × zS) :=
  zgd (zin s1 m2) (zlet (zI S s2 (s1 : Int32).toNatClampNeg s0) fun S22 => if x4 = 1 then zgd (zin x3 16) (zgd (zin x3 8) (zlet (zI S22 (zr T k0 41) (x3 : Int32).toNatClampNeg (S22.1 (zr T k0 26) (x3 : Int32).toNatClampNeg)) fun S38 => zgd (zin x3 16) (zgd (zin x3 8) (zlet (zI S38 (zr T k0 42) (x3 : Int32).toNatClampNeg (S38.1 (zr T k0 24) (x3 : Int32).toNatClampNeg)) fun S41 => zgd (zin x3 8) (zlet (zI S41 (zr T k0 43) (x3 : Int32).toNatClampNeg x2) fun S43 => zgd (zin x3 8) (zlet (zI S43 (zr T k0 46) (x3 : Int32).toNatClampNeg (vp_nar .boolean 0)) fun S45 => fX12_does_b376 T  S45)))))) else if x4 = 3 then zb1 (fX12_owedNow T k0 x3 x2 S22) fun r25 => zgd (zin x3 8) (zlet (zI S22 (zr T k0 41) (x3 : Int32).toNatClampNeg (r25 - x5)) fun S28 => zgd (zin x3 8) (zgd (zin x3 8) (zlet (zI S28 (zr T k0 42) (x3 : Int32).toNatClampNeg ((S28.1 (zr T k0 42) (x3 : Int32).toNatClampNeg) / 2)) fun S31 => zgd (zin x3 8) (zlet (zI S31 (zr T k0 43) (x3 : Int32).toNatClampNeg x2) fun S33 => zgd (zin x3 8) (zlet (zI S33 (zr T k0 46) (x3 : Int32).toNatClampNeg (vp_nar .boolean 1)) fun S35 => fX12_does_b376 T  S35))))) else fX12_does_b376 T  S22)
noncomputable def fX12_does_b254 (T : zT) (k0 : Nat) (x2 : Int32) (x3 : Int32) (x4 : Int32) (x5 : Int32) (s0 : Int32) (s1 : Int32) (s2 : Nat) (S : zS) : Option (Int32 × zS) :=
  zlet (zI S s2 48 (s1 + s0)) fun S18 => if x4 = 0 then fX12_does_b283 T k0 x2 x3 x4 x5 1 x3 (zr T k0 40) 8 S18 else if x4 = 2 then fX12_does_b283 T k0 x2 x3 x4 x5 2 x3 (zr T k0 40) 8 S18 else fX12_does_b283 T k0 x2 x3 x4 x5 0 x3 (zr T k0 40) 8 S18
noncomputable def fX12_does_b207 (T : zT) (k0 : Nat) (x2 : Int32) (x3 : Int32) (x4 : Int32) (x5 : Int32) (S : zS) : Option (Int32 × zS) :=
  zlet (zI S k0 48 ((S.1 k0 48) - x5)) fun S15 => if x4 = 1 then zgd (zin x3 16) (fX12_does_b254 T k0 x2 x3 x4 x5 (S15.1 (zr T k0 26) (x3 : Int32).toNatClampNeg) (S15.1 k0 48) k0 S15) else if x4 = 2 then zgd (zin x3 16) (fX12_does_b254 T k0 x2 x3 x4 x5 (S15.1 (zr T k0 27) (x3 : Int32).toNatClampNeg) (S15.1 k0 48) k0 S15) else fX12_does_b254 T k0 x2 x3 x4 x5 0 (S15.1 k0 48) k0 S15
noncomputable def fX12_does_b178 (T : zT) (k0 : Nat) (x2 : Int32) (x3 : Int32) (x4 : Int32) (x5 : Int32) (s0 : Int32) (s1 : Int32) (S : zS) : Option (Int32 × zS) :=
  if s1 = s0 then if (S.1 k0 48) < x5 then fX12_does_b205 T  S else if x4 = 3 then zgd (zin x3 8) (if (S.1 (zr T k0 46) (x3 : Int32).toNatClampNeg) = 0 then fX12_does_b207 T k0 x2 x3 x4 x5 S else fX12_does_b205 T  S) else fX12_does_b207 T k0 x2 x3 x4 x5 S else fX12_does_b205 T  S
noncomputable def fX12_does_b159 (T : zT) (k0 : Nat) (x2 : Int32) (x3 : Int32) (x4 : Int32) (s0 : Int32) (S : zS) : Option (Int32 × zS) :=
  zgd (zin x3 8) (if x4 = 1 then fX12_does_b178 T k0 x2 x3 x4 s0 1 (S.1 (zr T k0 40) (x3 : Int32).toNatClampNeg) S else fX12_does_b178 T k0 x2 x3 x4 s0 0 (S.1 (zr T k0 40) (x3 : Int32).toNatClampNeg) S)
noncomputable def fX12_does_b119 (T : zT) (x5 : Int32) (s0 : Int32) (s1 : Nat) (S : zS) : Option (Int32 × zS) :=
  zgd (zbl s0) (zlet (zI S s1 47 s0) fun S59 => zgd (zbl x5) (some (x5, S59)))
noncomputable def fX12_does_b114 (T : zT) (x5 : Int32) (s0 : Nat) (S : zS) : Option (Int32 × zS) :=
  fX12_does_b119 T x5 1 s0 S
noncomputable def fX12_does_b97 (T : zT) (k0 : Nat) (x5 : Int32) (s0 : Int32) (s1 : Int32) (s2 : Nat) (S : zS) : Option (Int32 × zS) :=
  zlet (zI S s2 48 (s1 + s0)) fun S56 => if (S56.1 k0 47) = 0 then if x5 = 0 then fX12_does_b119 T x5 0 k0 S56 else fX12_does_b114 T x5 k0 S56 else fX12_does_b114 T x5 k0 S56
noncomputable def fX12_does_b75 (T : zT) (k0 : Nat) (s0 : Int32) (S : zS) : Option (Int32 × zS) :=
  if s0 = 0 then fX12_does_b97 T k0 s0 0 (S.1 k0 48) k0 S else zgd (zin 0 2) (fX12_does_b97 T k0 s0 (S.1 (zr T k0 30) (0 : Int32).toNatClampNeg) (S.1 k0 48) k0 S)
noncomputable def fX12_does_b74 (T : zT) (k0 : Nat) (S : zS) : Option (Int32 × zS) :=
  fX12_does_b75 T k0 0 S
noncomputable def fX12_does (T : zT) (k0 : Nat) (x1 : Int32) (S : zS) : Option (Int32 × zS) :=
  zgd (zin x1 60) (zlet (S.1 (zr T k0 37) (x1 : Int32).toNatClampNeg) fun u2 => zgd (zin x1 60) (zlet (S.1 (zr T k0 39) (x1 : Int32).toNatClampNeg) fun u4 => zgd (zin x1 60) (zlet (S.1 (zr T k0 38) (x1 : Int32).toNatClampNeg) fun u6 => if u6 = 4 then if (S.1 k0 47) = 0 then zgd (zin 0 2) (if (S.1 (zr T k0 31) (0 : Int32).toNatClampNeg) = (-1) then fX12_does_b74 T k0 S else zgd (zin 0 2) (zgd (zin 0 2) (if (S.1 (zr T k0 33) (0 : Int32).toNatClampNeg) ≤ (S.1 (zr T k0 31) (0 : Int32).toNatClampNeg) then fX12_does_b74 T k0 S else zgd (zin 0 2) (if (S.1 (zr T k0 31) (0 : Int32).toNatClampNeg) ≤ u2 then fX12_does_b74 T k0 S else fX12_does_b75 T k0 1 S)))) else fX12_does_b74 T k0 S else if u6 = 0 then zb1 (fX12_owedNow T k0 u4 u2 S) fun r52 => fX12_does_b159 T k0 u2 u4 u6 r52 S else if u6 = 3 then zb1 (fX12_owedNow T k0 u4 u2 S) fun r50 => fX12_does_b159 T k0 u2 u4 u6 ((r50 + 1) / 2) S else fX12_does_b159 T k0 u2 u4 u6 0 S)))
set_option maxHeartbeats 4000000 in
set_option maxRecDepth 100000 in
theorem tX12_does_b205 (T : zT)  (S : zS)  {g : zG} (r : (Int32 × zS)) (h : fX12_does_b205 T  S = some r)  : zg g 1 mX12_does T 205 [none, none, none, none, none, none] [] T S (some (.int r.1)) T r.2 := by
  unfold fX12_does_b205 at h
  refine z_iconst dX12_does_205 cI_0 ?_
  cases h
  exact z_zret rfl (Or.inl rfl) dX12_does_206
set_option maxHeartbeats 4000000 in
set_option maxRecDepth 100000 in
theorem tX12_does_b376 (T : zT)  (S : zS)  {g : zG} (r : (Int32 × zS)) (h : fX12_does_b376 T  S = some r)  : zg g 1 mX12_does T 376 [none, none, none, none, none, none] [] T S (some (.int r.1)) T r.2 := by
  unfold fX12_does_b376 at h
  refine z_iconst dX12_does_376 cI_1 ?_
  cases h
  exact z_zret rfl (Or.inr rfl) dX12_does_377
set_option maxHeartbeats 4000000 in
set_option maxRecDepth 100000 in
theorem tX12_does_b283 (T : zT) (k0 : Nat) (x2 : Int32) (x3 : Int32) (x4 : Int32) (x5 : Int32) (s0 : Int32) (s1 : Int32) (s2 : Nat) (m2 : Nat) (S : zS) (h0 : iX12 T k0) (g2 : zL T s2 20 m2) {g : zG} (r : (Int32 × zS)) (h : fX12_does_b283 T k0 x2 x3 x4 x5 s0 s1 s2 m2 S = some r)  : zg g 1 mX12_does T 283 [some (.ref k0), none, some (.int x2), some (.int x3), some (.int x4), some (.int x5)] [.int s0, .int s1, .ref s2] T S (some (.int r.1)) T r.2 := by
  unfold fX12_does_b283 at h
  obtain ⟨q21, h⟩ := zgd_elim h
  refine z_iast g2 (zin_ok q21) dX12_does_283 ?_
  obtain ⟨S22, eS22, h⟩ := zlet_elim h
  refine z_tS eS22 ?_
  refine z_iload dX12_does_284 rfl ?_
  refine z_iconst dX12_does_286 cI_1 ?_
  refine z_icmp_ne (tgt := 331) dX12_does_287 (by decide) (fun q23 => ?_) (fun q23 => ?_)
  · rw [if_neg q23] at h
    refine z_iload dX12_does_331 rfl ?_
    refine z_iconst dX12_does_333 cI_3 ?_
    refine z_icmp_ne (tgt := 376) dX12_does_334 (by decide) (fun q24 => ?_) (fun q24 => ?_)
    · rw [if_neg q24] at h
      exact z_mask [false, false, false, false, false, false] rfl (tX12_does_b376 T  S22  r h)
    · rw [if_pos q24] at h
      refine z_aload_n dX12_does_337 rfl ?_
      refine z_gA (zF.x zfX12_99) h0.1 dX12_does_338 ?_
      refine z_iload_n dX12_does_341 rfl ?_
      refine z_aload_n dX12_does_342 rfl ?_
      refine z_iload_n dX12_does_343 rfl ?_
      refine z_iload_n dX12_does_344 rfl ?_
      obtain ⟨r25, hc26, h⟩ := zb1_elim h
      refine z_callV (As := [.int x3, .int x2]) zcX12 zkX12_417 ziX12_owedNow zqX12_owedNow h0.1 (tX12_owedNow T k0 x3 x2 S22 h0 r25 hc26) rfl rfl (Nat.le_of_ble_eq_true rfl) (by decide) ⟨Nat.le_refl _, Nat.le_refl _⟩ ⟨Nat.le_refl _, Nat.le_refl _⟩ dX12_does_345 ?_
      refine z_iload dX12_does_348 rfl ?_
      refine z_isub dX12_does_350 rfl ?_
      obtain ⟨q27, h⟩ := zgd_elim h
      refine z_iast h0.2.2.2.2.2.2.2.2.2.2.2.2.2.2.2.2.2.2.2.2.2.2.2.2.2.2.2.2.2.2.1 (zin_ok q27) dX12_does_351 ?_
      obtain ⟨S28, eS28, h⟩ := zlet_elim h
      refine z_tS eS28 ?_
      refine z_aload_n dX12_does_352 rfl ?_
      refine z_gA (zF.x zfX12_102) h0.1 dX12_does_353 ?_
      refine z_iload_n dX12_does_356 rfl ?_
      refine z_dup2 dX12_does_357 rfl rfl ?_
      obtain ⟨q29, h⟩ := zgd_elim h
      refine z_iald h0.2.2.2.2.2.2.2.2.2.2.2.2.2.2.2.2.2.2.2.2.2.2.2.2.2.2.2.2.2.2.2.1 (zin_ok q29) dX12_does_358 ?_
      refine z_iconst dX12_does_359 cI_2 ?_
      refine z_idiv dX12_does_360 (by decide) rfl ?_
      obtain ⟨q30, h⟩ := zgd_elim h
      refine z_iast h0.2.2.2.2.2.2.2.2.2.2.2.2.2.2.2.2.2.2.2.2.2.2.2.2.2.2.2.2.2.2.2.1 (zin_ok q30) dX12_does_361 ?_
      obtain ⟨S31, eS31, h⟩ := zlet_elim h
      refine z_tS eS31 ?_
      refine z_aload_n dX12_does_362 rfl ?_
      refine z_gA (zF.x zfX12_105) h0.1 dX12_does_363 ?_
      refine z_iload_n dX12_does_366 rfl ?_
      refine z_iload_n dX12_does_367 rfl ?_
      obtain ⟨q32, h⟩ := zgd_elim h
      refine z_iast h0.2.2.2.2.2.2.2.2.2.2.2.2.2.2.2.2.2.2.2.2.2.2.2.2.2.2.2.2.2.2.2.2.1 (zin_ok q32) dX12_does_368 ?_
      obtain ⟨S33, eS33, h⟩ := zlet_elim h
      refine z_tS eS33 ?_
      refine z_aload_n dX12_does_369 rfl ?_
      refine z_gA (zF.x zfX12_114) h0.1 dX12_does_370 ?_
      refine z_iload_n dX12_does_373 rfl ?_
      refine z_iconst dX12_does_374 cI_1 ?_
      obtain ⟨q34, h⟩ := zgd_elim h
      refine z_zast h0.2.2.2.2.2.2.2.2.2.2.2.2.2.2.2.2.2.2.2.2.2.2.2.2.2.2.2.2.2.2.2.2.2.2.2.1 (zin_ok q34) dX12_does_375 ?_
      obtain ⟨S35, eS35, h⟩ := zlet_elim h
      refine z_tS eS35 ?_
      exact z_mask [false, false, false, false, false, false] rfl (tX12_does_b376 T  S35  r h)
  · rw [if_pos q23] at h
    refine z_aload_n dX12_does_290 rfl ?_
    refine z_gA (zF.x zfX12_99) h0.1 dX12_does_291 ?_
    refine z_iload_n dX12_does_294 rfl ?_
    refine z_aload_n dX12_does_295 rfl ?_
    refine z_gA (zF.x zfX12_56) h0.1 dX12_does_296 ?_
    refine z_iload_n dX12_does_299 rfl ?_
    obtain ⟨q36, h⟩ := zgd_elim h
    refine z_iald h0.2.2.2.2.2.2.2.2.2.2.2.2.2.2.2.2.1 (zin_ok q36) dX12_does_300 ?_
    obtain ⟨q37, h⟩ := zgd_elim h
    refine z_iast h0.2.2.2.2.2.2.2.2.2.2.2.2.2.2.2.2.2.2.2.2.2.2.2.2.2.2.2.2.2.2.1 (zin_ok q37) dX12_does_301 ?_
    obtain ⟨S38, eS38, h⟩ := zlet_elim h
    refine z_tS eS38 ?_
    refine z_aload_n dX12_does_302 rfl ?_
    refine z_gA (zF.x zfX12_102) h0.1 dX12_does_303 ?_
    refine z_iload_n dX12_does_306 rfl ?_
    refine z_aload_n dX12_does_307 rfl ?_
    refine z_gA (zF.x zfX12_50) h0.1 dX12_does_308 ?_
    refine z_iload_n dX12_does_311 rfl ?_
    obtain ⟨q39, h⟩ := zgd_elim h
    refine z_iald h0.2.2.2.2.2.2.2.2.2.2.2.2.2.2.1 (zin_ok q39) dX12_does_312 ?_
    obtain ⟨q40, h⟩ := zgd_elim h
    refine z_iast h0.2.2.2.2.2.2.2.2.2.2.2.2.2.2.2.2.2.2.2.2.2.2.2.2.2.2.2.2.2.2.2.1 (zin_ok q40) dX12_does_313 ?_
    obtain ⟨S41, eS41, h⟩ := zlet_elim h
    refine z_tS eS41 ?_
    refine z_aload_n dX12_does_314 rfl ?_
    refine z_gA (zF.x zfX12_105) h0.1 dX12_does_315 ?_
    refine z_iload_n dX12_does_318 rfl ?_
    refine z_iload_n dX12_does_319 rfl ?_
    obtain ⟨q42, h⟩ := zgd_elim h
    refine z_iast h0.2.2.2.2.2.2.2.2.2.2.2.2.2.2.2.2.2.2.2.2.2.2.2.2.2.2.2.2.2.2.2.2.1 (zin_ok q42) dX12_does_320 ?_
    obtain ⟨S43, eS43, h⟩ := zlet_elim h
    refine z_tS eS43 ?_
    refine z_aload_n dX12_does_321 rfl ?_
    refine z_gA (zF.x zfX12_114) h0.1 dX12_does_322 ?_
    refine z_iload_n dX12_does_325 rfl ?_
    refine z_iconst dX12_does_326 cI_0 ?_
    obtain ⟨q44, h⟩ := zgd_elim h
    refine z_zast h0.2.2.2.2.2.2.2.2.2.2.2.2.2.2.2.2.2.2.2.2.2.2.2.2.2.2.2.2.2.2.2.2.2.2.2.1 (zin_ok q44) dX12_does_327 ?_
    obtain ⟨S45, eS45, h⟩ := zlet_elim h
    refine z_tS eS45 ?_
    refine z_goto (tgt := 376) dX12_does_328 (by decide) ?_
    exact z_mask [false, false, false, false, false, false] rfl (tX12_does_b376 T  S45  r h)
set_option maxHeartbeats 4000000 in
set_option maxRecDepth 100000 in
theorem tX12_does_b254 (T : zT) (k0 : Nat) (x2 : Int32) (x3 : Int32) (x4 : Int32) (x5 : Int32) (s0 : Int32) (s1 : Int32) (s2 : Nat) (S : zS) (h0 : iX12 T k0) (g2 : iX12 T s2) {g : zG} (r : (Int32 × zS)) (h : fX12_does_b254 T k0 x2 x3 x4 x5 s0 s1 s2 S = some r)  : zg g 1 mX12_does T 254 [some (.ref k0), none, some (.int x2), some (.int x3), some (.int x4), some (.int x5)] [.int s0, .int s1, .ref s2] T S (some (.int r.1)) T r.2 := by
  unfold fX12_does_b254 at h
  refine z_iadd dX12_does_254 rfl ?_
  refine z_putI zfX12_401 g2.1 dX12_does_255 ?_
  obtain ⟨S18, eS18, h⟩ := zlet_elim h
  refine z_tS eS18 ?_
  refine z_aload_n dX12_does_258 rfl ?_
  refine z_gA (zF.x zfX12_96) h0.1 dX12_does_259 ?_
  refine z_iload_n dX12_does_262 rfl ?_
  refine z_iload dX12_does_263 rfl ?_
  refine z_if_ne (tgt := 272) dX12_does_265 (by decide) (fun q19 => ?_) (fun q19 => ?_)
  · rw [if_neg q19] at h
    refine z_iload dX12_does_272 rfl ?_
    refine z_iconst dX12_does_274 cI_2 ?_
    refine z_icmp_ne (tgt := 282) dX12_does_275 (by decide) (fun q20 => ?_) (fun q20 => ?_)
    · rw [if_neg q20] at h
      refine z_iconst dX12_does_282 cI_0 ?_
      exact z_mask [true, false, true, true, true, true] rfl (tX12_does_b283 T k0 x2 x3 x4 x5 0 x3 (zr T k0 40) 8 S18 h0 h0.2.2.2.2.2.2.2.2.2.2.2.2.2.2.2.2.2.2.2.2.2.2.2.2.2.2.2.2.2.1 r h)
    · rw [if_pos q20] at h
      refine z_iconst dX12_does_278 cI_2 ?_
      refine z_goto (tgt := 283) dX12_does_279 (by decide) ?_
      exact z_mask [true, false, true, true, true, true] rfl (tX12_does_b283 T k0 x2 x3 x4 x5 2 x3 (zr T k0 40) 8 S18 h0 h0.2.2.2.2.2.2.2.2.2.2.2.2.2.2.2.2.2.2.2.2.2.2.2.2.2.2.2.2.2.1 r h)
  · rw [if_pos q19] at h
    refine z_iconst dX12_does_268 cI_1 ?_
    refine z_goto (tgt := 283) dX12_does_269 (by decide) ?_
    exact z_mask [true, false, true, true, true, true] rfl (tX12_does_b283 T k0 x2 x3 x4 x5 1 x3 (zr T k0 40) 8 S18 h0 h0.2.2.2.2.2.2.2.2.2.2.2.2.2.2.2.2.2.2.2.2.2.2.2.2.2.2.2.2.2.1 r h)
set_option maxHeartbeats 4000000 in
set_option maxRecDepth 100000 in
theorem tX12_does_b207 (T : zT) (k0 : Nat) (x2 : Int32) (x3 : Int32) (x4 : Int32) (x5 : Int32) (S : zS) (h0 : iX12 T k0) {g : zG} (r : (Int32 × zS)) (h : fX12_does_b207 T k0 x2 x3 x4 x5 S = some r)  : zg g 1 mX12_does T 207 [some (.ref k0), none, some (.int x2), some (.int x3), some (.int x4), some (.int x5)] [] T S (some (.int r.1)) T r.2 := by
  unfold fX12_does_b207 at h
  refine z_aload_n dX12_does_207 rfl ?_
  refine z_dup dX12_does_208 rfl ?_
  refine z_gI (zF.x zfX12_401) h0.1 dX12_does_209 ?_
  refine z_iload dX12_does_212 rfl ?_
  refine z_isub dX12_does_214 rfl ?_
  refine z_putI zfX12_401 h0.1 dX12_does_215 ?_
  obtain ⟨S15, eS15, h⟩ := zlet_elim h
  refine z_tS eS15 ?_
  refine z_aload_n dX12_does_218 rfl ?_
  refine z_dup dX12_does_219 rfl ?_
  refine z_gI (zF.x zfX12_401) h0.1 dX12_does_220 ?_
  refine z_iload dX12_does_223 rfl ?_
  refine z_iconst dX12_does_225 cI_1 ?_
  refine z_icmp_ne (tgt := 238) dX12_does_226 (by decide) (fun q16 => ?_) (fun q16 => ?_)
  · rw [if_neg q16] at h
    refine z_iload dX12_does_238 rfl ?_
    refine z_iconst dX12_does_240 cI_2 ?_
    refine z_icmp_ne (tgt := 253) dX12_does_241 (by decide) (fun q17 => ?_) (fun q17 => ?_)
    · rw [if_neg q17] at h
      refine z_iconst dX12_does_253 cI_0 ?_
      exact z_mask [true, false, true, true, true, true] rfl (tX12_does_b254 T k0 x2 x3 x4 x5 0 (S15.1 k0 48) k0 S15 h0 h0 r h)
    · rw [if_pos q17] at h
      refine z_aload_n dX12_does_244 rfl ?_
      refine z_gA (zF.x zfX12_59) h0.1 dX12_does_245 ?_
      refine z_iload_n dX12_does_248 rfl ?_
      obtain ⟨q46, h⟩ := zgd_elim h
      refine z_iald h0.2.2.2.2.2.2.2.2.2.2.2.2.2.2.2.2.2.1 (zin_ok q46) dX12_does_249 ?_
      refine z_goto (tgt := 254) dX12_does_250 (by decide) ?_
      exact z_mask [true, false, true, true, true, true] rfl (tX12_does_b254 T k0 x2 x3 x4 x5 (S15.1 (zr T k0 27) (x3 : Int32).toNatClampNeg) (S15.1 k0 48) k0 S15 h0 h0 r h)
  · rw [if_pos q16] at h
    refine z_aload_n dX12_does_229 rfl ?_
    refine z_gA (zF.x zfX12_56) h0.1 dX12_does_230 ?_
    refine z_iload_n dX12_does_233 rfl ?_
    obtain ⟨q47, h⟩ := zgd_elim h
    refine z_iald h0.2.2.2.2.2.2.2.2.2.2.2.2.2.2.2.2.1 (zin_ok q47) dX12_does_234 ?_
    refine z_goto (tgt := 254) dX12_does_235 (by decide) ?_
    exact z_mask [true, false, true, true, true, true] rfl (tX12_does_b254 T k0 x2 x3 x4 x5 (S15.1 (zr T k0 26) (x3 : Int32).toNatClampNeg) (S15.1 k0 48) k0 S15 h0 h0 r h)
set_option maxHeartbeats 4000000 in
set_option maxRecDepth 100000 in
theorem tX12_does_b178 (T : zT) (k0 : Nat) (x2 : Int32) (x3 : Int32) (x4 : Int32) (x5 : Int32) (s0 : Int32) (s1 : Int32) (S : zS) (h0 : iX12 T k0) {g : zG} (r : (Int32 × zS)) (h : fX12_does_b178 T k0 x2 x3 x4 x5 s0 s1 S = some r)  : zg g 1 mX12_does T 178 [some (.ref k0), none, some (.int x2), some (.int x3), some (.int x4), some (.int x5)] [.int s0, .int s1] T S (some (.int r.1)) T r.2 := by
  unfold fX12_does_b178 at h
  refine z_icmp_ne (tgt := 205) dX12_does_178 (by decide) (fun q12 => ?_) (fun q12 => ?_)
  · rw [if_neg q12] at h
    exact z_mask [false, false, false, false, false, false] rfl (tX12_does_b205 T  S  r h)
  · rw [if_pos q12] at h
    refine z_iload dX12_does_181 rfl ?_
    refine z_aload_n dX12_does_183 rfl ?_
    refine z_gI (zF.x zfX12_401) h0.1 dX12_does_184 ?_
    refine z_icmp_gt (tgt := 205) dX12_does_187 (by decide) (fun q13 => ?_) (fun q13 => ?_)
    · rw [if_pos q13] at h
      exact z_mask [false, false, false, false, false, false] rfl (tX12_does_b205 T  S  r h)
    · rw [if_neg q13] at h
      refine z_iload dX12_does_190 rfl ?_
      refine z_iconst dX12_does_192 cI_3 ?_
      refine z_icmp_ne (tgt := 207) dX12_does_193 (by decide) (fun q14 => ?_) (fun q14 => ?_)
      · rw [if_neg q14] at h
        exact z_mask [true, false, true, true, true, true] rfl (tX12_does_b207 T k0 x2 x3 x4 x5 S h0 r h)
      · rw [if_pos q14] at h
        refine z_aload_n dX12_does_196 rfl ?_
        refine z_gA (zF.x zfX12_114) h0.1 dX12_does_197 ?_
        refine z_iload_n dX12_does_200 rfl ?_
        obtain ⟨q48, h⟩ := zgd_elim h
        refine z_zald h0.2.2.2.2.2.2.2.2.2.2.2.2.2.2.2.2.2.2.2.2.2.2.2.2.2.2.2.2.2.2.2.2.2.2.2.1 (zin_ok q48) dX12_does_201 ?_
        refine z_if_eq (tgt := 207) dX12_does_202 (by decide) (fun q49 => ?_) (fun q49 => ?_)
        · rw [if_pos q49] at h
          exact z_mask [true, false, true, true, true, true] rfl (tX12_does_b207 T k0 x2 x3 x4 x5 S h0 r h)
        · rw [if_neg q49] at h
          exact z_mask [false, false, false, false, false, false] rfl (tX12_does_b205 T  S  r h)
set_option maxHeartbeats 4000000 in
set_option maxRecDepth 100000 in
theorem tX12_does_b159 (T : zT) (k0 : Nat) (x2 : Int32) (x3 : Int32) (x4 : Int32) (s0 : Int32) (S : zS) (h0 : iX12 T k0) {g : zG} (r : (Int32 × zS)) (h : fX12_does_b159 T k0 x2 x3 x4 s0 S = some r)  : zg g 1 mX12_does T 159 [some (.ref k0), none, some (.int x2), some (.int x3), some (.int x4), none] [.int s0] T S (some (.int r.1)) T r.2 := by
  unfold fX12_does_b159 at h
  refine z_istore dX12_does_159 rfl (by decide) rfl ?_
  refine z_aload_n dX12_does_161 rfl ?_
  refine z_gA (zF.x zfX12_96) h0.1 dX12_does_162 ?_
  refine z_iload_n dX12_does_165 rfl ?_
  obtain ⟨q10, h⟩ := zgd_elim h
  refine z_iald h0.2.2.2.2.2.2.2.2.2.2.2.2.2.2.2.2.2.2.2.2.2.2.2.2.2.2.2.2.2.1 (zin_ok q10) dX12_does_166 ?_
  refine z_iload dX12_does_167 rfl ?_
  refine z_iconst dX12_does_169 cI_1 ?_
  refine z_icmp_ne (tgt := 177) dX12_does_170 (by decide) (fun q11 => ?_) (fun q11 => ?_)
  · rw [if_neg q11] at h
    refine z_iconst dX12_does_177 cI_0 ?_
    exact z_mask [true, false, true, true, true, true] rfl (tX12_does_b178 T k0 x2 x3 x4 s0 0 (S.1 (zr T k0 40) (x3 : Int32).toNatClampNeg) S h0 r h)
  · rw [if_pos q11] at h
    refine z_iconst dX12_does_173 cI_1 ?_
    refine z_goto (tgt := 178) dX12_does_174 (by decide) ?_
    exact z_mask [true, false, true, true, true, true] rfl (tX12_does_b178 T k0 x2 x3 x4 s0 1 (S.1 (zr T k0 40) (x3 : Int32).toNatClampNeg) S h0 r h)
set_option maxHeartbeats 4000000 in
set_option maxRecDepth 100000 in
theorem tX12_does_b119 (T : zT) (x5 : Int32) (s0 : Int32) (s1 : Nat) (S : zS) (g1 : iX12 T s1) {g : zG} (r : (Int32 × zS)) (h : fX12_does_b119 T x5 s0 s1 S = some r)  : zg g 1 mX12_does T 119 [none, none, none, none, none, some (.int x5)] [.int s0, .ref s1] T S (some (.int r.1)) T r.2 := by
  unfold fX12_does_b119 at h
  obtain ⟨q58, h⟩ := zgd_elim h
  refine z_putZ zfX12_404 (zbl_ok q58) g1.1 dX12_does_119 ?_
  obtain ⟨S59, eS59, h⟩ := zlet_elim h
  refine z_tS eS59 ?_
  refine z_iload dX12_does_122 rfl ?_
  obtain ⟨q60, h⟩ := zgd_elim h
  cases h
  exact z_zret rfl (zbl_ok q60) dX12_does_124
set_option maxHeartbeats 4000000 in
set_option maxRecDepth 100000 in
theorem tX12_does_b114 (T : zT) (x5 : Int32) (s0 : Nat) (S : zS) (g0 : iX12 T s0) {g : zG} (r : (Int32 × zS)) (h : fX12_does_b114 T x5 s0 S = some r)  : zg g 1 mX12_does T 114 [none, none, none, none, none, some (.int x5)] [.ref s0] T S (some (.int r.1)) T r.2 := by
  unfold fX12_does_b114 at h
  refine z_iconst dX12_does_114 cI_1 ?_
  refine z_goto (tgt := 119) dX12_does_115 (by decide) ?_
  exact z_mask [false, false, false, false, false, true] rfl (tX12_does_b119 T x5 1 s0 S g0 r h)
set_option maxHeartbeats 4000000 in
set_option maxRecDepth 100000 in
theorem tX12_does_b97 (T : zT) (k0 : Nat) (x5 : Int32) (s0 : Int32) (s1 : Int32) (s2 : Nat) (S : zS) (h0 : iX12 T k0) (g2 : iX12 T s2) {g : zG} (r : (Int32 × zS)) (h : fX12_does_b97 T k0 x5 s0 s1 s2 S = some r)  : zg g 1 mX12_does T 97 [some (.ref k0), none, none, none, none, some (.int x5)] [.int s0, .int s1, .ref s2] T S (some (.int r.1)) T r.2 := by
  unfold fX12_does_b97 at h
  refine z_iadd dX12_does_97 rfl ?_
  refine z_putI zfX12_401 g2.1 dX12_does_98 ?_
  obtain ⟨S56, eS56, h⟩ := zlet_elim h
  refine z_tS eS56 ?_
  refine z_aload_n dX12_does_101 rfl ?_
  refine z_aload_n dX12_does_102 rfl ?_
  refine z_gZ (zF.x zfX12_404) h0.1 dX12_does_103 ?_
  refine z_if_ne (tgt := 114) dX12_does_106 (by decide) (fun q57 => ?_) (fun q57 => ?_)
  · rw [if_neg q57] at h
    exact z_mask [false, false, false, false, false, true] rfl (tX12_does_b114 T x5 k0 S56 h0 r h)
  · rw [if_pos q57] at h
    refine z_iload dX12_does_109 rfl ?_
    refine z_if_eq (tgt := 118) dX12_does_111 (by decide) (fun q61 => ?_) (fun q61 => ?_)
    · rw [if_pos q61] at h
      refine z_iconst dX12_does_118 cI_0 ?_
      exact z_mask [false, false, false, false, false, true] rfl (tX12_does_b119 T x5 0 k0 S56 h0 r h)
    · rw [if_neg q61] at h
      exact z_mask [false, false, false, false, false, true] rfl (tX12_does_b114 T x5 k0 S56 h0 r h)
set_option maxHeartbeats 4000000 in
set_option maxRecDepth 100000 in
theorem tX12_does_b75 (T : zT) (k0 : Nat) (s0 : Int32) (S : zS) (h0 : iX12 T k0) {g : zG} (r : (Int32 × zS)) (h : fX12_does_b75 T k0 s0 S = some r)  : zg g 1 mX12_does T 75 [some (.ref k0), none, none, none, none, none] [.int s0] T S (some (.int r.1)) T r.2 := by
  unfold fX12_does_b75 at h
  refine z_istore dX12_does_75 rfl (by decide) rfl ?_
  refine z_aload_n dX12_does_77 rfl ?_
  refine z_dup dX12_does_78 rfl ?_
  refine z_gI (zF.x zfX12_401) h0.1 dX12_does_79 ?_
  refine z_iload dX12_does_82 rfl ?_
  refine z_if_eq (tgt := 96) dX12_does_84 (by decide) (fun q55 => ?_) (fun q55 => ?_)
  · rw [if_pos q55] at h
    refine z_iconst dX12_does_96 cI_0 ?_
    exact z_mask [true, false, false, false, false, true] rfl (tX12_does_b97 T k0 s0 0 (S.1 k0 48) k0 S h0 h0 r h)
  · rw [if_neg q55] at h
    refine z_aload_n dX12_does_87 rfl ?_
    refine z_gA (zF.x zfX12_68) h0.1 dX12_does_88 ?_
    refine z_iconst dX12_does_91 cI_0 ?_
    obtain ⟨q62, h⟩ := zgd_elim h
    refine z_iald h0.2.2.2.2.2.2.2.2.2.2.2.2.2.2.2.2.2.2.2.2.1 (zin_ok q62) dX12_does_92 ?_
    refine z_goto (tgt := 97) dX12_does_93 (by decide) ?_
    exact z_mask [true, false, false, false, false, true] rfl (tX12_does_b97 T k0 s0 (S.1 (zr T k0 30) (0 : Int32).toNatClampNeg) (S.1 k0 48) k0 S h0 h0 r h)
set_option maxHeartbeats 4000000 in
set_option maxRecDepth 100000 in
theorem tX12_does_b74 (T : zT) (k0 : Nat) (S : zS) (h0 : iX12 T k0) {g : zG} (r : (Int32 × zS)) (h : fX12_does_b74 T k0 S = some r)  : zg g 1 mX12_does T 74 [some (.ref k0), none, none, none, none, none] [] T S (some (.int r.1)) T r.2 := by
  unfold fX12_does_b74 at h
  refine z_iconst dX12_does_74 cI_0 ?_
  exact z_mask [true, false, false, false, false, false] rfl (tX12_does_b75 T k0 0 S h0 r h)
set_option maxHeartbeats 4000000 in
set_option maxRecDepth 100000 in
theorem tX12_does (T : zT) (k0 : Nat) (x1 : Int32) (S : zS) (h0 : iX12 T k0) (r : Int32 × zS) (h : fX12_does T k0 x1 S = some r) : zGM 1 mX12_does [.ref k0, .int x1] T S (some (.int r.1)) T r.2 := by
  refine zGM_of zpnX12 rfl (Nat.le_of_ble_eq_true rfl) (fun g => ?_)
  show zg g 1 mX12_does T 0 [some (.ref k0), some (.int x1), none, none, none, none] [] T S (some (.int r.1)) T r.2
  unfold fX12_does at h
  refine z_aload_n dX12_does_0 rfl ?_
  refine z_gA (zF.x zfX12_87) h0.1 dX12_does_1 ?_
  refine z_iload_n dX12_does_4 rfl ?_
  obtain ⟨q1, h⟩ := zgd_elim h
  refine z_iald h0.2.2.2.2.2.2.2.2.2.2.2.2.2.2.2.2.2.2.2.2.2.2.2.2.2.2.1 (zin_ok q1) dX12_does_5 ?_
  obtain ⟨u2, eu2, h⟩ := zlet_elim h
  refine z_ti eu2 ?_
  refine z_istore_n dX12_does_6 rfl (by decide) rfl ?_
  refine z_aload_n dX12_does_7 rfl ?_
  refine z_gA (zF.x zfX12_93) h0.1 dX12_does_8 ?_
  refine z_iload_n dX12_does_11 rfl ?_
  obtain ⟨q3, h⟩ := zgd_elim h
  refine z_iald h0.2.2.2.2.2.2.2.2.2.2.2.2.2.2.2.2.2.2.2.2.2.2.2.2.2.2.2.2.1 (zin_ok q3) dX12_does_12 ?_
  obtain ⟨u4, eu4, h⟩ := zlet_elim h
  refine z_ti eu4 ?_
  refine z_istore_n dX12_does_13 rfl (by decide) rfl ?_
  refine z_aload_n dX12_does_14 rfl ?_
  refine z_gA (zF.x zfX12_90) h0.1 dX12_does_15 ?_
  refine z_iload_n dX12_does_18 rfl ?_
  obtain ⟨q5, h⟩ := zgd_elim h
  refine z_iald h0.2.2.2.2.2.2.2.2.2.2.2.2.2.2.2.2.2.2.2.2.2.2.2.2.2.2.2.1 (zin_ok q5) dX12_does_19 ?_
  obtain ⟨u6, eu6, h⟩ := zlet_elim h
  refine z_ti eu6 ?_
  refine z_istore dX12_does_20 rfl (by decide) rfl ?_
  refine z_iload dX12_does_22 rfl ?_
  refine z_iconst dX12_does_24 cI_4 ?_
  refine z_icmp_ne (tgt := 125) dX12_does_25 (by decide) (fun q7 => ?_) (fun q7 => ?_)
  · rw [if_neg q7] at h
    refine z_iload dX12_does_125 rfl ?_
    refine z_if_ne (tgt := 139) dX12_does_127 (by decide) (fun q8 => ?_) (fun q8 => ?_)
    · rw [if_neg q8] at h
      refine z_iload dX12_does_139 rfl ?_
      refine z_iconst dX12_does_141 cI_3 ?_
      refine z_icmp_ne (tgt := 158) dX12_does_142 (by decide) (fun q9 => ?_) (fun q9 => ?_)
      · rw [if_neg q9] at h
        refine z_iconst dX12_does_158 cI_0 ?_
        exact z_mask [true, false, true, true, true, false] rfl (tX12_does_b159 T k0 u2 u4 u6 0 S h0 r h)
      · rw [if_pos q9] at h
        refine z_aload_n dX12_does_145 rfl ?_
        refine z_iload_n dX12_does_146 rfl ?_
        refine z_iload_n dX12_does_147 rfl ?_
        obtain ⟨r50, hc51, h⟩ := zb1_elim h
        refine z_callV (As := [.int u4, .int u2]) zcX12 zkX12_417 ziX12_owedNow zqX12_owedNow h0.1 (tX12_owedNow T k0 u4 u2 S h0 r50 hc51) rfl rfl (Nat.le_of_ble_eq_true rfl) (by decide) ⟨Nat.le_refl _, Nat.le_refl _⟩ ⟨Nat.le_refl _, Nat.le_refl _⟩ dX12_does_148 ?_
        refine z_iconst dX12_does_151 cI_1 ?_
        refine z_iadd dX12_does_152 rfl ?_
        refine z_iconst dX12_does_153 cI_2 ?_
        refine z_idiv dX12_does_154 (by decide) rfl ?_
        refine z_goto (tgt := 159) dX12_does_155 (by decide) ?_
        exact z_mask [true, false, true, true, true, false] rfl (tX12_does_b159 T k0 u2 u4 u6 ((r50 + 1) / 2) S h0 r h)
    · rw [if_pos q8] at h
      refine z_aload_n dX12_does_130 rfl ?_
      refine z_iload_n dX12_does_131 rfl ?_
      refine z_iload_n dX12_does_132 rfl ?_
      obtain ⟨r52, hc53, h⟩ := zb1_elim h
      refine z_callV (As := [.int u4, .int u2]) zcX12 zkX12_417 ziX12_owedNow zqX12_owedNow h0.1 (tX12_owedNow T k0 u4 u2 S h0 r52 hc53) rfl rfl (Nat.le_of_ble_eq_true rfl) (by decide) ⟨Nat.le_refl _, Nat.le_refl _⟩ ⟨Nat.le_refl _, Nat.le_refl _⟩ dX12_does_133 ?_
      refine z_goto (tgt := 159) dX12_does_136 (by decide) ?_
      exact z_mask [true, false, true, true, true, false] rfl (tX12_does_b159 T k0 u2 u4 u6 r52 S h0 r h)
  · rw [if_pos q7] at h
    refine z_aload_n dX12_does_28 rfl ?_
    refine z_gZ (zF.x zfX12_404) h0.1 dX12_does_29 ?_
    refine z_if_ne (tgt := 74) dX12_does_32 (by decide) (fun q54 => ?_) (fun q54 => ?_)
    · rw [if_neg q54] at h
      exact z_mask [true, false, false, false, false, false] rfl (tX12_does_b74 T k0 S h0 r h)
    · rw [if_pos q54] at h
      refine z_aload_n dX12_does_35 rfl ?_
      refine z_gA (zF.x zfX12_71) h0.1 dX12_does_36 ?_
      refine z_iconst dX12_does_39 cI_0 ?_
      obtain ⟨q63, h⟩ := zgd_elim h
      refine z_iald h0.2.2.2.2.2.2.2.2.2.2.2.2.2.2.2.2.2.2.2.2.2.1 (zin_ok q63) dX12_does_40 ?_
      refine z_iconst dX12_does_41 cI_m1 ?_
      refine z_icmp_eq (tgt := 74) dX12_does_42 (by decide) (fun q64 => ?_) (fun q64 => ?_)
      · rw [if_pos q64] at h
        exact z_mask [true, false, false, false, false, false] rfl (tX12_does_b74 T k0 S h0 r h)
      · rw [if_neg q64] at h
        refine z_aload_n dX12_does_45 rfl ?_
        refine z_gA (zF.x zfX12_71) h0.1 dX12_does_46 ?_
        refine z_iconst dX12_does_49 cI_0 ?_
        obtain ⟨q65, h⟩ := zgd_elim h
        refine z_iald h0.2.2.2.2.2.2.2.2.2.2.2.2.2.2.2.2.2.2.2.2.2.1 (zin_ok q65) dX12_does_50 ?_
        refine z_aload_n dX12_does_51 rfl ?_
        refine z_gA (zF.x zfX12_77) h0.1 dX12_does_52 ?_
        refine z_iconst dX12_does_55 cI_0 ?_
        obtain ⟨q66, h⟩ := zgd_elim h
        refine z_iald h0.2.2.2.2.2.2.2.2.2.2.2.2.2.2.2.2.2.2.2.2.2.2.2.1 (zin_ok q66) dX12_does_56 ?_
        refine z_icmp_ge (tgt := 74) dX12_does_57 (by decide) (fun q67 => ?_) (fun q67 => ?_)
        · rw [if_pos q67] at h
          exact z_mask [true, false, false, false, false, false] rfl (tX12_does_b74 T k0 S h0 r h)
        · rw [if_neg q67] at h
          refine z_iload_n dX12_does_60 rfl ?_
          refine z_aload_n dX12_does_61 rfl ?_
          refine z_gA (zF.x zfX12_71) h0.1 dX12_does_62 ?_
          refine z_iconst dX12_does_65 cI_0 ?_
          obtain ⟨q68, h⟩ := zgd_elim h
          refine z_iald h0.2.2.2.2.2.2.2.2.2.2.2.2.2.2.2.2.2.2.2.2.2.1 (zin_ok q68) dX12_does_66 ?_
          refine z_icmp_ge (tgt := 74) dX12_does_67 (by decide) (fun q69 => ?_) (fun q69 => ?_)
          · rw [if_pos q69] at h
            exact z_mask [true, false, false, false, false, false] rfl (tX12_does_b74 T k0 S h0 r h)
          · rw [if_neg q69] at h
            refine z_iconst dX12_does_70 cI_1 ?_
            refine z_goto (tgt := 75) dX12_does_71 (by decide) ?_
            exact z_mask [true, false, false, false, false, false] rfl (tX12_does_b75 T k0 1 S h0 r h)
/-! X12_fetchable -/
noncomputable def fX12_fetchable_b34 (T : zT) (s0 : Int32) (s1 : Int32) (S : zS) : Option Int32 :=
  some (s1 &&& (s0 ^^^ (-1)))
noncomputable def fX12_fetchable (T : zT) (k0 : Nat) (x1 : Int32) (x2 : Int32) (S : zS) : Option Int32 :=
  zb1 (fX12_all T k0 S) fun r1 => zb1 (fX12_gone T k0 x2 S) fun r3 => if (S.1 k0 56) = (-1) then fX12_fetchable_b34 T 0 ((r1 &&& (x1 ^^^ (-1))) &&& (r3 ^^^ (-1))) S else fX12_fetchable_b34 T (1 <<< ((S.1 k0 56) &&& 31)) ((r1 &&& (x1 ^^^ (-1))) &&& (r3 ^^^ (-1))) S
set_option maxHeartbeats 4000000 in
set_option maxRecDepth 100000 in
theorem tX12_fetchable_b34 (T : zT) (s0 : Int32) (s1 : Int32) (S : zS)  {g : zG} (r : Int32) (h : fX12_fetchable_b34 T s0 s1 S = some r)  : zg g 1 mX12_fetchable T 34 [none, none, none] [.int s0, .int s1] T S (some (.int r)) T S := by
  unfold fX12_fetchable_b34 at h
  refine z_iconst dX12_fetchable_34 cI_m1 ?_
  refine z_ixor dX12_fetchable_35 rfl ?_
  refine z_iand dX12_fetchable_36 rfl ?_
  cases h
  exact z_iret rfl dX12_fetchable_37
set_option maxHeartbeats 4000000 in
set_option maxRecDepth 100000 in
theorem tX12_fetchable (T : zT) (k0 : Nat) (x1 : Int32) (x2 : Int32) (S : zS) (h0 : iX12 T k0) (r : Int32) (h : fX12_fetchable T k0 x1 x2 S = some r) : zGM 1 mX12_fetchable [.ref k0, .int x1, .int x2] T S (some (.int r)) T S := by
  refine zGM_of zpnX12 rfl (Nat.le_of_ble_eq_true rfl) (fun g => ?_)
  show zg g 1 mX12_fetchable T 0 [some (.ref k0), some (.int x1), some (.int x2)] [] T S (some (.int r)) T S
  unfold fX12_fetchable at h
  refine z_aload_n dX12_fetchable_0 rfl ?_
  obtain ⟨r1, hc2, h⟩ := zb1_elim h
  refine z_callV (As := []) zcX12 zkX12_354 ziX12_all zqX12_all h0.1 (tX12_all T k0 S h0 r1 hc2) rfl rfl (Nat.le_of_ble_eq_true rfl) (by decide) ⟨Nat.le_refl _, Nat.le_refl _⟩ ⟨Nat.le_refl _, Nat.le_refl _⟩ dX12_fetchable_1 ?_
  refine z_iload_n dX12_fetchable_4 rfl ?_
  refine z_iconst dX12_fetchable_5 cI_m1 ?_
  refine z_ixor dX12_fetchable_6 rfl ?_
  refine z_iand dX12_fetchable_7 rfl ?_
  refine z_aload_n dX12_fetchable_8 rfl ?_
  refine z_iload_n dX12_fetchable_9 rfl ?_
  obtain ⟨r3, hc4, h⟩ := zb1_elim h
  refine z_callV (As := [.int x2]) zcX12 zkX12_479 ziX12_gone zqX12_gone h0.1 (tX12_gone T k0 x2 S h0 r3 hc4) rfl rfl (Nat.le_of_ble_eq_true rfl) (by decide) ⟨Nat.le_refl _, Nat.le_refl _⟩ ⟨Nat.le_refl _, Nat.le_refl _⟩ dX12_fetchable_10 ?_
  refine z_iconst dX12_fetchable_13 cI_m1 ?_
  refine z_ixor dX12_fetchable_14 rfl ?_
  refine z_iand dX12_fetchable_15 rfl ?_
  refine z_aload_n dX12_fetchable_16 rfl ?_
  refine z_gI (zF.x zfX12_467) h0.1 dX12_fetchable_17 ?_
  refine z_iconst dX12_fetchable_20 cI_m1 ?_
  refine z_icmp_ne (tgt := 28) dX12_fetchable_21 (by decide) (fun q5 => ?_) (fun q5 => ?_)
  · rw [if_neg q5] at h
    refine z_iconst dX12_fetchable_28 cI_1 ?_
    refine z_aload_n dX12_fetchable_29 rfl ?_
    refine z_gI (zF.x zfX12_467) h0.1 dX12_fetchable_30 ?_
    refine z_ishl dX12_fetchable_33 rfl ?_
    exact z_mask [false, false, false] rfl (tX12_fetchable_b34 T (1 <<< ((S.1 k0 56) &&& 31)) ((r1 &&& (x1 ^^^ (-1))) &&& (r3 ^^^ (-1))) S  r h)
  · rw [if_pos q5] at h
    refine z_iconst dX12_fetchable_24 cI_0 ?_
    refine z_goto (tgt := 34) dX12_fetchable_25 (by decide) ?_
    exact z_mask [false, false, false] rfl (tX12_fetchable_b34 T 0 ((r1 &&& (x1 ^^^ (-1))) &&& (r3 ^^^ (-1))) S  r h)
/-! X12_atEnd -/
noncomputable def fX12_atEnd_b43 (T : zT) (k0 : Nat) (x2 : Int32) (s0 : Int32) (S : zS) : Option ((Int32 × Int32) ⊕ Int32) :=
  zlet (x2 + 1) fun u5 => some (.inl (s0, u5))
noncomputable def fX12_atEnd_b42 (T : zT) (k0 : Nat) (x1 : Int32) (x2 : Int32) (S : zS) : Option ((Int32 × Int32) ⊕ Int32) :=
  fX12_atEnd_b43 T k0 x2 x1 S
noncomputable def fX12_atEnd_b38 (T : zT) (k0 : Nat) (x2 : Int32) (S : zS) : Option ((Int32 × Int32) ⊕ Int32) :=
  fX12_atEnd_b43 T k0 x2 x2 S
noncomputable def fX12_atEnd_l4 (T : zT) (k0 : Nat) (S : zS) (x1 : Int32) (x2 : Int32) : Option ((Int32 × Int32) ⊕ Int32) :=
  if 256 ≤ x2 then some (.inr x1) else zb1 (fX12_planned T k0 x2 S) fun r2 => if r2 = (-1) then fX12_atEnd_b42 T k0 x1 x2 S else if x1 = (-1) then fX12_atEnd_b38 T k0 x2 S else zb1 (fX12_planned T k0 x2 S) fun r7 => zb1 (fX12_planned T k0 x1 S) fun r9 => if r7 ≤ r9 then fX12_atEnd_b42 T k0 x1 x2 S else fX12_atEnd_b38 T k0 x2 S
noncomputable def fX12_atEnd (T : zT) (k0 : Nat) (S : zS) : Option Int32 :=
  zb1 (lp (fun a => fX12_atEnd_l4 T k0 S a.1 a.2) ((-1), 0)) fun e12 => some e12
set_option maxHeartbeats 4000000 in
set_option maxRecDepth 100000 in
theorem tX12_atEnd_b43 (T : zT) (k0 : Nat) (x2 : Int32) (s0 : Int32) (S : zS) (h0 : iX12 T k0) {g : zG} {v : Option Value} {S' : zS} (r : ((Int32 × Int32) ⊕ Int32)) (h : fX12_atEnd_b43 T k0 x2 s0 S = some r) (K1 : ∀ a : (Int32 × Int32), r = .inl a → zg g 1 mX12_atEnd T 4 [some (.ref k0), some (.int a.1), some (.int a.2)] [] T S v T S') (K2_0 : ∀ e : Int32, r = .inr e → zg g 1 mX12_atEnd T 50 [none, some (.int e), none] [] T S v T S') : zg g 1 mX12_atEnd T 43 [some (.ref k0), none, some (.int x2)] [.int s0] T S v T S' := by
  unfold fX12_atEnd_b43 at h
  refine z_istore_n dX12_atEnd_43 rfl (by decide) rfl ?_
  obtain ⟨u5, eu5, h⟩ := zlet_elim h
  refine z_iinc (r := u5) dX12_atEnd_44 rfl (by rw [eu5, cI_1]) rfl (by decide) rfl ?_
  refine z_goto (tgt := 4) dX12_atEnd_47 (by decide) ?_
  cases h
  exact z_mask [true, true, true] rfl (K1 _ rfl)
set_option maxHeartbeats 4000000 in
set_option maxRecDepth 100000 in
theorem tX12_atEnd_b42 (T : zT) (k0 : Nat) (x1 : Int32) (x2 : Int32) (S : zS) (h0 : iX12 T k0) {g : zG} {v : Option Value} {S' : zS} (r : ((Int32 × Int32) ⊕ Int32)) (h : fX12_atEnd_b42 T k0 x1 x2 S = some r) (K1 : ∀ a : (Int32 × Int32), r = .inl a → zg g 1 mX12_atEnd T 4 [some (.ref k0), some (.int a.1), some (.int a.2)] [] T S v T S') (K2_0 : ∀ e : Int32, r = .inr e → zg g 1 mX12_atEnd T 50 [none, some (.int e), none] [] T S v T S') : zg g 1 mX12_atEnd T 42 [some (.ref k0), some (.int x1), some (.int x2)] [] T S v T S' := by
  unfold fX12_atEnd_b42 at h
  refine z_iload_n dX12_atEnd_42 rfl ?_
  exact z_mask [true, false, true] rfl (tX12_atEnd_b43 T k0 x2 x1 S h0 r h K1 K2_0)
set_option maxHeartbeats 4000000 in
set_option maxRecDepth 100000 in
theorem tX12_atEnd_b38 (T : zT) (k0 : Nat) (x2 : Int32) (S : zS) (h0 : iX12 T k0) {g : zG} {v : Option Value} {S' : zS} (r : ((Int32 × Int32) ⊕ Int32)) (h : fX12_atEnd_b38 T k0 x2 S = some r) (K1 : ∀ a : (Int32 × Int32), r = .inl a → zg g 1 mX12_atEnd T 4 [some (.ref k0), some (.int a.1), some (.int a.2)] [] T S v T S') (K2_0 : ∀ e : Int32, r = .inr e → zg g 1 mX12_atEnd T 50 [none, some (.int e), none] [] T S v T S') : zg g 1 mX12_atEnd T 38 [some (.ref k0), none, some (.int x2)] [] T S v T S' := by
  unfold fX12_atEnd_b38 at h
  refine z_iload_n dX12_atEnd_38 rfl ?_
  refine z_goto (tgt := 43) dX12_atEnd_39 (by decide) ?_
  exact z_mask [true, false, true] rfl (tX12_atEnd_b43 T k0 x2 x2 S h0 r h K1 K2_0)
set_option maxHeartbeats 4000000 in
set_option maxRecDepth 100000 in
theorem tX12_atEnd_l4b (T : zT) (k0 : Nat) (S : zS) (x1 : Int32) (x2 : Int32) (h0 : iX12 T k0) {g : zG} {v : Option Value} {S' : zS} (r : (Int32 × Int32) ⊕ Int32) (h : fX12_atEnd_l4 T k0 S x1 x2 = some r) (K1 : ∀ a : (Int32 × Int32), r = .inl a → zg g 1 mX12_atEnd T 4 [some (.ref k0), some (.int a.1), some (.int a.2)] [] T S v T S') (K2_0 : ∀ e : Int32, r = .inr e → zg g 1 mX12_atEnd T 50 [none, some (.int e), none] [] T S v T S') : zg g 1 mX12_atEnd T 4 [some (.ref k0), some (.int x1), some (.int x2)] [] T S v T S' := by
  unfold fX12_atEnd_l4 at h
  refine z_iload_n dX12_atEnd_4 rfl ?_
  refine z_sipush dX12_atEnd_5 cS_256 ?_
  refine z_icmp_ge (tgt := 50) dX12_atEnd_8 (by decide) (fun q1 => ?_) (fun q1 => ?_)
  · rw [if_pos q1] at h
    cases h
    exact z_mask [false, true, false] rfl (K2_0 _ rfl)
  · rw [if_neg q1] at h
    refine z_aload_n dX12_atEnd_11 rfl ?_
    refine z_iload_n dX12_atEnd_12 rfl ?_
    obtain ⟨r2, hc3, h⟩ := zb1_elim h
    refine z_callV (As := [.int x2]) zcX12 zkX12_488 ziX12_planned zqX12_planned h0.1 (tX12_planned T k0 x2 S h0 r2 hc3) rfl rfl (Nat.le_of_ble_eq_true rfl) (by decide) ⟨Nat.le_refl _, Nat.le_refl _⟩ ⟨Nat.le_refl _, Nat.le_refl _⟩ dX12_atEnd_13 ?_
    refine z_iconst dX12_atEnd_16 cI_m1 ?_
    refine z_icmp_eq (tgt := 42) dX12_atEnd_17 (by decide) (fun q4 => ?_) (fun q4 => ?_)
    · rw [if_pos q4] at h
      exact z_mask [true, true, true] rfl (tX12_atEnd_b42 T k0 x1 x2 S h0 r h K1 K2_0)
    · rw [if_neg q4] at h
      refine z_iload_n dX12_atEnd_20 rfl ?_
      refine z_iconst dX12_atEnd_21 cI_m1 ?_
      refine z_icmp_eq (tgt := 38) dX12_atEnd_22 (by decide) (fun q6 => ?_) (fun q6 => ?_)
      · rw [if_pos q6] at h
        exact z_mask [true, false, true] rfl (tX12_atEnd_b38 T k0 x2 S h0 r h K1 K2_0)
      · rw [if_neg q6] at h
        refine z_aload_n dX12_atEnd_25 rfl ?_
        refine z_iload_n dX12_atEnd_26 rfl ?_
        obtain ⟨r7, hc8, h⟩ := zb1_elim h
        refine z_callV (As := [.int x2]) zcX12 zkX12_488 ziX12_planned zqX12_planned h0.1 (tX12_planned T k0 x2 S h0 r7 hc8) rfl rfl (Nat.le_of_ble_eq_true rfl) (by decide) ⟨Nat.le_refl _, Nat.le_refl _⟩ ⟨Nat.le_refl _, Nat.le_refl _⟩ dX12_atEnd_27 ?_
        refine z_aload_n dX12_atEnd_30 rfl ?_
        refine z_iload_n dX12_atEnd_31 rfl ?_
        obtain ⟨r9, hc10, h⟩ := zb1_elim h
        refine z_callV (As := [.int x1]) zcX12 zkX12_488 ziX12_planned zqX12_planned h0.1 (tX12_planned T k0 x1 S h0 r9 hc10) rfl rfl (Nat.le_of_ble_eq_true rfl) (by decide) ⟨Nat.le_refl _, Nat.le_refl _⟩ ⟨Nat.le_refl _, Nat.le_refl _⟩ dX12_atEnd_32 ?_
        refine z_icmp_le (tgt := 42) dX12_atEnd_35 (by decide) (fun q11 => ?_) (fun q11 => ?_)
        · rw [if_pos q11] at h
          exact z_mask [true, true, true] rfl (tX12_atEnd_b42 T k0 x1 x2 S h0 r h K1 K2_0)
        · rw [if_neg q11] at h
          exact z_mask [true, false, true] rfl (tX12_atEnd_b38 T k0 x2 S h0 r h K1 K2_0)
set_option maxHeartbeats 4000000 in
set_option maxRecDepth 100000 in
theorem tX12_atEnd_l4 (T : zT) (k0 : Nat) (S : zS) (h0 : iX12 T k0) {g : zG} {v : Option Value} {S' : zS} : ∀ (n : Nat) (a : (Int32 × Int32)) (e : Int32), lpn (fun a => fX12_atEnd_l4 T k0 S a.1 a.2) n a = some e → (∀ e1 : Int32, e = e1 → zg g 1 mX12_atEnd T 50 [none, some (.int e1), none] [] T S v T S') → zg g 1 mX12_atEnd T 4 [some (.ref k0), some (.int a.1), some (.int a.2)] [] T S v T S' := by
  intro n
  induction n with
  | zero =>
    intro a e h
    cases h
  | succ n ih =>
    intro a e h k0_
    rcases lpn_succ h with ⟨a1, ha_, hb_⟩ | ha_
    · exact tX12_atEnd_l4b T k0 S a.1 a.2 h0 _ ha_ (fun a2 q => by cases q; exact ih a1 e hb_ k0_) (fun e1 q => by cases q)
    · exact tX12_atEnd_l4b T k0 S a.1 a.2 h0 _ ha_ (fun a2 q => by cases q) (fun e1 q => by cases q; exact k0_ _ rfl)
set_option maxHeartbeats 4000000 in
set_option maxRecDepth 100000 in
theorem tX12_atEnd (T : zT) (k0 : Nat) (S : zS) (h0 : iX12 T k0) (r : Int32) (h : fX12_atEnd T k0 S = some r) : zGM 1 mX12_atEnd [.ref k0] T S (some (.int r)) T S := by
  refine zGM_of zpnX12 rfl (Nat.le_of_ble_eq_true rfl) (fun g => ?_)
  show zg g 1 mX12_atEnd T 0 [some (.ref k0), none, none] [] T S (some (.int r)) T S
  unfold fX12_atEnd at h
  refine z_iconst dX12_atEnd_0 cI_m1 ?_
  refine z_istore_n dX12_atEnd_1 rfl (by decide) rfl ?_
  refine z_iconst dX12_atEnd_2 cI_0 ?_
  refine z_istore_n dX12_atEnd_3 rfl (by decide) rfl ?_
  obtain ⟨e12, hl13, h⟩ := zb1_elim h
  obtain ⟨nf14, hl13⟩ := lp_some hl13
  refine z_mask [true, true, true] rfl (tX12_atEnd_l4 T k0 S h0 nf14 ((-1), 0) e12 hl13 (fun e_ q => ?_))
  · cases q
    refine z_iload_n dX12_atEnd_50 rfl ?_
    cases h
    exact z_iret rfl dX12_atEnd_51
/-! X12_states -/
noncomputable def fX12_states_b63 (T : zT) (k0 : Nat) (x1 : Int32) (x2 : Int32) (x4 : Int32) (s0 : Int32) (s1 : Int32) (S : zS) : Option ((Int32 × Int32 × Int32) ⊕ (Int32 × Int32)) :=
  zlet (s1 ||| s0) fun u8 => zlet (x4 + 1) fun u9 => some (.inl (x2, u8, u9))
noncomputable def fX12_states_b39 (T : zT) (k0 : Nat) (x1 : Int32) (x3 : Int32) (x4 : Int32) (s0 : Int32) (s1 : Int32) (S : zS) : Option ((Int32 × Int32 × Int32) ⊕ (Int32 × Int32)) :=
  zlet (s1 + s0) fun u5 => zgd (zin x4 15360) (if (S.1 (zr T k0 53) (x4 : Int32).toNatClampNeg) = (-1) then fX12_states_b63 T k0 x1 u5 x4 0 x3 S else fX12_states_b63 T k0 x1 u5 x4 (x4 - x4 / 256 * 256) x3 S)
noncomputable def fX12_states_l7 (T : zT) (k0 : Nat) (x1 : Int32) (S : zS) (x2 : Int32) (x3 : Int32) (x4 : Int32) : Option ((Int32 × Int32 × Int32) ⊕ (Int32 × Int32)) :=
  zgd (zin 0 2) (if (256 * (S.1 (zr T k0 33) (0 : Int32).toNatClampNeg)) ≤ x4 then some (.inr (x2, x3)) else zgd (zin x4 15360) (if (S.1 (zr T k0 53) (x4 : Int32).toNatClampNeg) = (-1) then fX12_states_b39 T k0 x1 x3 x4 0 x2 S else fX12_states_b39 T k0 x1 x3 x4 1 x2 S))
noncomputable def fX12_states_b87 (T : zT) (s0 : Int32) (S : zS) : Option Int32 :=
  some s0
noncomputable def fX12_states (T : zT) (k0 : Nat) (x1 : Int32) (S : zS) : Option Int32 :=
  zb1 (lp (fun a => fX12_states_l7 T k0 x1 S a.1 a.2.1 a.2.2) (0, 0, 0)) fun e10 => if x1 = 0 then fX12_states_b87 T e10.1 S else zb1 (fX12_all T k0 S) fun r12 => fX12_states_b87 T (r12 &&& (e10.2 ^^^ (-1))) S
set_option maxHeartbeats 4000000 in
set_option maxRecDepth 100000 in
theorem tX12_states_b63 (T : zT) (k0 : Nat) (x1 : Int32) (x2 : Int32) (x4 : Int32) (s0 : Int32) (s1 : Int32) (S : zS) (h0 : iX12 T k0) {g : zG} {v : Option Value} {S' : zS} (r : ((Int32 × Int32 × Int32) ⊕ (Int32 × Int32))) (h : fX12_states_b63 T k0 x1 x2 x4 s0 s1 S = some r) (K1 : ∀ a : (Int32 × Int32 × Int32), r = .inl a → zg g 1 mX12_states T 7 [some (.ref k0), some (.int x1), some (.int a.1), some (.int a.2.1), some (.int a.2.2)] [] T S v T S') (K2_0 : ∀ e : (Int32 × Int32), r = .inr e → zg g 1 mX12_states T 71 [some (.ref k0), some (.int x1), some (.int e.1), some (.int e.2), none] [] T S v T S') : zg g 1 mX12_states T 63 [some (.ref k0), some (.int x1), some (.int x2), none, some (.int x4)] [.int s0, .int s1] T S v T S' := by
  unfold fX12_states_b63 at h
  refine z_ior dX12_states_63 rfl ?_
  obtain ⟨u8, eu8, h⟩ := zlet_elim h
  refine z_ti eu8 ?_
  refine z_istore_n dX12_states_64 rfl (by decide) rfl ?_
  obtain ⟨u9, eu9, h⟩ := zlet_elim h
  refine z_iinc (r := u9) dX12_states_65 rfl (by rw [eu9, cI_1]) rfl (by decide) rfl ?_
  refine z_goto (tgt := 7) dX12_states_68 (by decide) ?_
  cases h
  exact z_mask [true, true, true, true, true] rfl (K1 _ rfl)
set_option maxHeartbeats 4000000 in
set_option maxRecDepth 100000 in
theorem tX12_states_b39 (T : zT) (k0 : Nat) (x1 : Int32) (x3 : Int32) (x4 : Int32) (s0 : Int32) (s1 : Int32) (S : zS) (h0 : iX12 T k0) {g : zG} {v : Option Value} {S' : zS} (r : ((Int32 × Int32 × Int32) ⊕ (Int32 × Int32))) (h : fX12_states_b39 T k0 x1 x3 x4 s0 s1 S = some r) (K1 : ∀ a : (Int32 × Int32 × Int32), r = .inl a → zg g 1 mX12_states T 7 [some (.ref k0), some (.int x1), some (.int a.1), some (.int a.2.1), some (.int a.2.2)] [] T S v T S') (K2_0 : ∀ e : (Int32 × Int32), r = .inr e → zg g 1 mX12_states T 71 [some (.ref k0), some (.int x1), some (.int e.1), some (.int e.2), none] [] T S v T S') : zg g 1 mX12_states T 39 [some (.ref k0), some (.int x1), none, some (.int x3), some (.int x4)] [.int s0, .int s1] T S v T S' := by
  unfold fX12_states_b39 at h
  refine z_iadd dX12_states_39 rfl ?_
  obtain ⟨u5, eu5, h⟩ := zlet_elim h
  refine z_ti eu5 ?_
  refine z_istore_n dX12_states_40 rfl (by decide) rfl ?_
  refine z_iload_n dX12_states_41 rfl ?_
  refine z_aload_n dX12_states_42 rfl ?_
  refine z_gA (zF.x zfX12_118) h0.1 dX12_states_43 ?_
  refine z_iload dX12_states_46 rfl ?_
  obtain ⟨q6, h⟩ := zgd_elim h
  refine z_iald h0.2.2.2.2.2.2.2.2.2.2.2.2.2.2.2.2.2.2.2.2.2.2.2.2.2.2.2.2.2.2.2.2.2.2.2.2.1 (zin_ok q6) dX12_states_48 ?_
  refine z_iconst dX12_states_49 cI_m1 ?_
  refine z_icmp_eq (tgt := 62) dX12_states_50 (by decide) (fun q7 => ?_) (fun q7 => ?_)
  · rw [if_pos q7] at h
    refine z_iconst dX12_states_62 cI_0 ?_
    exact z_mask [true, true, true, false, true] rfl (tX12_states_b63 T k0 x1 u5 x4 0 x3 S h0 r h K1 K2_0)
  · rw [if_neg q7] at h
    refine z_iload dX12_states_53 rfl ?_
    refine z_sipush dX12_states_55 cS_256 ?_
    refine z_irem dX12_states_58 (by decide) rfl ?_
    refine z_goto (tgt := 63) dX12_states_59 (by decide) ?_
    exact z_mask [true, true, true, false, true] rfl (tX12_states_b63 T k0 x1 u5 x4 (x4 - x4 / 256 * 256) x3 S h0 r h K1 K2_0)
set_option maxHeartbeats 4000000 in
set_option maxRecDepth 100000 in
theorem tX12_states_l7b (T : zT) (k0 : Nat) (x1 : Int32) (S : zS) (x2 : Int32) (x3 : Int32) (x4 : Int32) (h0 : iX12 T k0) {g : zG} {v : Option Value} {S' : zS} (r : (Int32 × Int32 × Int32) ⊕ (Int32 × Int32)) (h : fX12_states_l7 T k0 x1 S x2 x3 x4 = some r) (K1 : ∀ a : (Int32 × Int32 × Int32), r = .inl a → zg g 1 mX12_states T 7 [some (.ref k0), some (.int x1), some (.int a.1), some (.int a.2.1), some (.int a.2.2)] [] T S v T S') (K2_0 : ∀ e : (Int32 × Int32), r = .inr e → zg g 1 mX12_states T 71 [some (.ref k0), some (.int x1), some (.int e.1), some (.int e.2), none] [] T S v T S') : zg g 1 mX12_states T 7 [some (.ref k0), some (.int x1), some (.int x2), some (.int x3), some (.int x4)] [] T S v T S' := by
  unfold fX12_states_l7 at h
  refine z_iload dX12_states_7 rfl ?_
  refine z_sipush dX12_states_9 cS_256 ?_
  refine z_aload_n dX12_states_12 rfl ?_
  refine z_gA (zF.x zfX12_77) h0.1 dX12_states_13 ?_
  refine z_iconst dX12_states_16 cI_0 ?_
  obtain ⟨q1, h⟩ := zgd_elim h
  refine z_iald h0.2.2.2.2.2.2.2.2.2.2.2.2.2.2.2.2.2.2.2.2.2.2.2.1 (zin_ok q1) dX12_states_17 ?_
  refine z_imul dX12_states_18 rfl ?_
  refine z_icmp_ge (tgt := 71) dX12_states_19 (by decide) (fun q2 => ?_) (fun q2 => ?_)
  · rw [if_pos q2] at h
    cases h
    exact z_mask [true, true, true, true, false] rfl (K2_0 _ rfl)
  · rw [if_neg q2] at h
    refine z_iload_n dX12_states_22 rfl ?_
    refine z_aload_n dX12_states_23 rfl ?_
    refine z_gA (zF.x zfX12_118) h0.1 dX12_states_24 ?_
    refine z_iload dX12_states_27 rfl ?_
    obtain ⟨q3, h⟩ := zgd_elim h
    refine z_iald h0.2.2.2.2.2.2.2.2.2.2.2.2.2.2.2.2.2.2.2.2.2.2.2.2.2.2.2.2.2.2.2.2.2.2.2.2.1 (zin_ok q3) dX12_states_29 ?_
    refine z_iconst dX12_states_30 cI_m1 ?_
    refine z_icmp_eq (tgt := 38) dX12_states_31 (by decide) (fun q4 => ?_) (fun q4 => ?_)
    · rw [if_pos q4] at h
      refine z_iconst dX12_states_38 cI_0 ?_
      exact z_mask [true, true, false, true, true] rfl (tX12_states_b39 T k0 x1 x3 x4 0 x2 S h0 r h K1 K2_0)
    · rw [if_neg q4] at h
      refine z_iconst dX12_states_34 cI_1 ?_
      refine z_goto (tgt := 39) dX12_states_35 (by decide) ?_
      exact z_mask [true, true, false, true, true] rfl (tX12_states_b39 T k0 x1 x3 x4 1 x2 S h0 r h K1 K2_0)
set_option maxHeartbeats 4000000 in
set_option maxRecDepth 100000 in
theorem tX12_states_l7 (T : zT) (k0 : Nat) (x1 : Int32) (S : zS) (h0 : iX12 T k0) {g : zG} {v : Option Value} {S' : zS} : ∀ (n : Nat) (a : (Int32 × Int32 × Int32)) (e : (Int32 × Int32)), lpn (fun a => fX12_states_l7 T k0 x1 S a.1 a.2.1 a.2.2) n a = some e → (∀ e1 : (Int32 × Int32), e = e1 → zg g 1 mX12_states T 71 [some (.ref k0), some (.int x1), some (.int e1.1), some (.int e1.2), none] [] T S v T S') → zg g 1 mX12_states T 7 [some (.ref k0), some (.int x1), some (.int a.1), some (.int a.2.1), some (.int a.2.2)] [] T S v T S' := by
  intro n
  induction n with
  | zero =>
    intro a e h
    cases h
  | succ n ih =>
    intro a e h k0_
    rcases lpn_succ h with ⟨a1, ha_, hb_⟩ | ha_
    · exact tX12_states_l7b T k0 x1 S a.1 a.2.1 a.2.2 h0 _ ha_ (fun a2 q => by cases q; exact ih a1 e hb_ k0_) (fun e1 q => by cases q)
    · exact tX12_states_l7b T k0 x1 S a.1 a.2.1 a.2.2 h0 _ ha_ (fun a2 q => by cases q) (fun e1 q => by cases q; exact k0_ _ rfl)
set_option maxHeartbeats 4000000 in
set_option maxRecDepth 100000 in
theorem tX12_states_b87 (T : zT) (s0 : Int32) (S : zS)  {g : zG} (r : Int32) (h : fX12_states_b87 T s0 S = some r)  : zg g 1 mX12_states T 87 [none, none, none, none, none] [.int s0] T S (some (.int r)) T S := by
  unfold fX12_states_b87 at h
  cases h
  exact z_iret rfl dX12_states_87
set_option maxHeartbeats 4000000 in
set_option maxRecDepth 100000 in
theorem tX12_states (T : zT) (k0 : Nat) (x1 : Int32) (S : zS) (h0 : iX12 T k0) (r : Int32) (h : fX12_states T k0 x1 S = some r) : zGM 1 mX12_states [.ref k0, .int x1] T S (some (.int r)) T S := by
  refine zGM_of zpnX12 rfl (Nat.le_of_ble_eq_true rfl) (fun g => ?_)
  show zg g 1 mX12_states T 0 [some (.ref k0), some (.int x1), none, none, none] [] T S (some (.int r)) T S
  unfold fX12_states at h
  refine z_iconst dX12_states_0 cI_0 ?_
  refine z_istore_n dX12_states_1 rfl (by decide) rfl ?_
  refine z_iconst dX12_states_2 cI_0 ?_
  refine z_istore_n dX12_states_3 rfl (by decide) rfl ?_
  refine z_iconst dX12_states_4 cI_0 ?_
  refine z_istore dX12_states_5 rfl (by decide) rfl ?_
  obtain ⟨e10, hl14, h⟩ := zb1_elim h
  obtain ⟨nf15, hl14⟩ := lp_some hl14
  refine z_mask [true, true, true, true, true] rfl (tX12_states_l7 T k0 x1 S h0 nf15 (0, 0, 0) e10 hl14 (fun e_ q => ?_))
  · cases q
    refine z_iload_n dX12_states_71 rfl ?_
    refine z_if_eq (tgt := 86) dX12_states_72 (by decide) (fun q11 => ?_) (fun q11 => ?_)
    · rw [if_pos q11] at h
      refine z_iload_n dX12_states_86 rfl ?_
      exact z_mask [false, false, false, false, false] rfl (tX12_states_b87 T e10.1 S  r h)
    · rw [if_neg q11] at h
      refine z_aload_n dX12_states_75 rfl ?_
      obtain ⟨r12, hc13, h⟩ := zb1_elim h
      refine z_callV (As := []) zcX12 zkX12_354 ziX12_all zqX12_all h0.1 (tX12_all T k0 S h0 r12 hc13) rfl rfl (Nat.le_of_ble_eq_true rfl) (by decide) ⟨Nat.le_refl _, Nat.le_refl _⟩ ⟨Nat.le_refl _, Nat.le_refl _⟩ dX12_states_76 ?_
      refine z_iload_n dX12_states_79 rfl ?_
      refine z_iconst dX12_states_80 cI_m1 ?_
      refine z_ixor dX12_states_81 rfl ?_
      refine z_iand dX12_states_82 rfl ?_
      refine z_goto (tgt := 87) dX12_states_83 (by decide) ?_
      exact z_mask [false, false, false, false, false] rfl (tX12_states_b87 T (r12 &&& (e10.2 ^^^ (-1))) S  r h)
/-! X12_richest -/
noncomputable def fX12_richest_b49 (T : zT) (k0 : Nat) (x1 : Int32) (x2 : Int32) (x4 : Int32) (s0 : Int32) (s1 : Int32) (S : zS) : Option ((Int32 × Int32) ⊕ Int32) :=
  zlet (s1 + s0) fun u6 => zlet (x4 + 1) fun u7 => some (.inl (u6, u7))
noncomputable def fX12_richest_l20 (T : zT) (k0 : Nat) (x1 : Int32) (x2 : Int32) (S : zS) (x3 : Int32) (x4 : Int32) : Option ((Int32 × Int32) ⊕ Int32) :=
  if 8 ≤ x4 then some (.inr x3) else if ((x2 >>> (x4 &&& 31)) &&& 1) = 1 then zgd (zin x4 16) (fX12_richest_b49 T k0 x1 x2 x4 (S.1 (zr T k0 28) (x4 : Int32).toNatClampNeg) x3 S) else fX12_richest_b49 T k0 x1 x2 x4 0 x3 S
noncomputable def fX12_richest_b76 (T : zT) (k0 : Nat) (x2 : Int32) (s0 : Int32) (S : zS) : Option ((Int32 × Int32) ⊕ Int32) :=
  zlet (x2 + 1) fun u13 => some (.inl (s0, u13))
noncomputable def fX12_richest_b75 (T : zT) (k0 : Nat) (x1 : Int32) (x2 : Int32) (S : zS) : Option ((Int32 × Int32) ⊕ Int32) :=
  fX12_richest_b76 T k0 x2 x1 S
noncomputable def fX12_richest_l4 (T : zT) (k0 : Nat) (S : zS) (x1 : Int32) (x2 : Int32) : Option ((Int32 × Int32) ⊕ Int32) :=
  if 256 ≤ x2 then some (.inr x1) else zb1 (fX12_planned T k0 x2 S) fun r2 => zb1 (lp (fun a => fX12_richest_l20 T k0 x1 x2 S a.1 a.2) (r2, 0)) fun e9 => zb1 (fX12_planned T k0 x2 S) fun r10 => if r10 = (-1) then fX12_richest_b75 T k0 x1 x2 S else if e9 ≤ x1 then fX12_richest_b75 T k0 x1 x2 S else fX12_richest_b76 T k0 x2 e9 S
noncomputable def fX12_richest (T : zT) (k0 : Nat) (S : zS) : Option Int32 :=
  zb1 (lp (fun a => fX12_richest_l4 T k0 S a.1 a.2) ((-1), 0)) fun e17 => some e17
set_option maxHeartbeats 4000000 in
set_option maxRecDepth 100000 in
theorem tX12_richest_b49 (T : zT) (k0 : Nat) (x1 : Int32) (x2 : Int32) (x4 : Int32) (s0 : Int32) (s1 : Int32) (S : zS) (h0 : iX12 T k0) {g : zG} {v : Option Value} {S' : zS} (r : ((Int32 × Int32) ⊕ Int32)) (h : fX12_richest_b49 T k0 x1 x2 x4 s0 s1 S = some r) (K1 : ∀ a : (Int32 × Int32), r = .inl a → zg g 1 mX12_richest T 20 [some (.ref k0), some (.int x1), some (.int x2), some (.int a.1), some (.int a.2)] [] T S v T S') (K2_0 : ∀ e : Int32, r = .inr e → zg g 1 mX12_richest T 57 [some (.ref k0), some (.int x1), some (.int x2), some (.int e), none] [] T S v T S') : zg g 1 mX12_richest T 49 [some (.ref k0), some (.int x1), some (.int x2), none, some (.int x4)] [.int s0, .int s1] T S v T S' := by
  unfold fX12_richest_b49 at h
  refine z_iadd dX12_richest_49 rfl ?_
  obtain ⟨u6, eu6, h⟩ := zlet_elim h
  refine z_ti eu6 ?_
  refine z_istore_n dX12_richest_50 rfl (by decide) rfl ?_
  obtain ⟨u7, eu7, h⟩ := zlet_elim h
  refine z_iinc (r := u7) dX12_richest_51 rfl (by rw [eu7, cI_1]) rfl (by decide) rfl ?_
  refine z_goto (tgt := 20) dX12_richest_54 (by decide) ?_
  cases h
  exact z_mask [true, true, true, true, true] rfl (K1 _ rfl)
set_option maxHeartbeats 4000000 in
set_option maxRecDepth 100000 in
theorem tX12_richest_l20b (T : zT) (k0 : Nat) (x1 : Int32) (x2 : Int32) (S : zS) (x3 : Int32) (x4 : Int32) (h0 : iX12 T k0) {g : zG} {v : Option Value} {S' : zS} (r : (Int32 × Int32) ⊕ Int32) (h : fX12_richest_l20 T k0 x1 x2 S x3 x4 = some r) (K1 : ∀ a : (Int32 × Int32), r = .inl a → zg g 1 mX12_richest T 20 [some (.ref k0), some (.int x1), some (.int x2), some (.int a.1), some (.int a.2)] [] T S v T S') (K2_0 : ∀ e : Int32, r = .inr e → zg g 1 mX12_richest T 57 [some (.ref k0), some (.int x1), some (.int x2), some (.int e), none] [] T S v T S') : zg g 1 mX12_richest T 20 [some (.ref k0), some (.int x1), some (.int x2), some (.int x3), some (.int x4)] [] T S v T S' := by
  unfold fX12_richest_l20 at h
  refine z_iload dX12_richest_20 rfl ?_
  refine z_bipush dX12_richest_22 cB_8 ?_
  refine z_icmp_ge (tgt := 57) dX12_richest_24 (by decide) (fun q4 => ?_) (fun q4 => ?_)
  · rw [if_pos q4] at h
    cases h
    exact z_mask [true, true, true, true, false] rfl (K2_0 _ rfl)
  · rw [if_neg q4] at h
    refine z_iload_n dX12_richest_27 rfl ?_
    refine z_iload_n dX12_richest_28 rfl ?_
    refine z_iload dX12_richest_29 rfl ?_
    refine z_ishr dX12_richest_31 rfl ?_
    refine z_iconst dX12_richest_32 cI_1 ?_
    refine z_iand dX12_richest_33 rfl ?_
    refine z_iconst dX12_richest_34 cI_1 ?_
    refine z_icmp_ne (tgt := 48) dX12_richest_35 (by decide) (fun q5 => ?_) (fun q5 => ?_)
    · rw [if_neg q5] at h
      refine z_iconst dX12_richest_48 cI_0 ?_
      exact z_mask [true, true, true, false, true] rfl (tX12_richest_b49 T k0 x1 x2 x4 0 x3 S h0 r h K1 K2_0)
    · rw [if_pos q5] at h
      refine z_aload_n dX12_richest_38 rfl ?_
      refine z_gA (zF.x zfX12_62) h0.1 dX12_richest_39 ?_
      refine z_iload dX12_richest_42 rfl ?_
      obtain ⟨q8, h⟩ := zgd_elim h
      refine z_iald h0.2.2.2.2.2.2.2.2.2.2.2.2.2.2.2.2.2.2.1 (zin_ok q8) dX12_richest_44 ?_
      refine z_goto (tgt := 49) dX12_richest_45 (by decide) ?_
      exact z_mask [true, true, true, false, true] rfl (tX12_richest_b49 T k0 x1 x2 x4 (S.1 (zr T k0 28) (x4 : Int32).toNatClampNeg) x3 S h0 r h K1 K2_0)
set_option maxHeartbeats 4000000 in
set_option maxRecDepth 100000 in
theorem tX12_richest_l20 (T : zT) (k0 : Nat) (x1 : Int32) (x2 : Int32) (S : zS) (h0 : iX12 T k0) {g : zG} {v : Option Value} {S' : zS} : ∀ (n : Nat) (a : (Int32 × Int32)) (e : Int32), lpn (fun a => fX12_richest_l20 T k0 x1 x2 S a.1 a.2) n a = some e → (∀ e1 : Int32, e = e1 → zg g 1 mX12_richest T 57 [some (.ref k0), some (.int x1), some (.int x2), some (.int e1), none] [] T S v T S') → zg g 1 mX12_richest T 20 [some (.ref k0), some (.int x1), some (.int x2), some (.int a.1), some (.int a.2)] [] T S v T S' := by
  intro n
  induction n with
  | zero =>
    intro a e h
    cases h
  | succ n ih =>
    intro a e h k0_
    rcases lpn_succ h with ⟨a1, ha_, hb_⟩ | ha_
    · exact tX12_richest_l20b T k0 x1 x2 S a.1 a.2 h0 _ ha_ (fun a2 q => by cases q; exact ih a1 e hb_ k0_) (fun e1 q => by cases q)
    · exact tX12_richest_l20b T k0 x1 x2 S a.1 a.2 h0 _ ha_ (fun a2 q => by cases q) (fun e1 q => by cases q; exact k0_ _ rfl)
set_option maxHeartbeats 4000000 in
set_option maxRecDepth 100000 in
theorem tX12_richest_b76 (T : zT) (k0 : Nat) (x2 : Int32) (s0 : Int32) (S : zS) (h0 : iX12 T k0) {g : zG} {v : Option Value} {S' : zS} (r : ((Int32 × Int32) ⊕ Int32)) (h : fX12_richest_b76 T k0 x2 s0 S = some r) (K1 : ∀ a : (Int32 × Int32), r = .inl a → zg g 1 mX12_richest T 4 [some (.ref k0), some (.int a.1), some (.int a.2), none, none] [] T S v T S') (K2_0 : ∀ e : Int32, r = .inr e → zg g 1 mX12_richest T 83 [none, some (.int e), none, none, none] [] T S v T S') : zg g 1 mX12_richest T 76 [some (.ref k0), none, some (.int x2), none, none] [.int s0] T S v T S' := by
  unfold fX12_richest_b76 at h
  refine z_istore_n dX12_richest_76 rfl (by decide) rfl ?_
  obtain ⟨u13, eu13, h⟩ := zlet_elim h
  refine z_iinc (r := u13) dX12_richest_77 rfl (by rw [eu13, cI_1]) rfl (by decide) rfl ?_
  refine z_goto (tgt := 4) dX12_richest_80 (by decide) ?_
  cases h
  exact z_mask [true, true, true, false, false] rfl (K1 _ rfl)
set_option maxHeartbeats 4000000 in
set_option maxRecDepth 100000 in
theorem tX12_richest_b75 (T : zT) (k0 : Nat) (x1 : Int32) (x2 : Int32) (S : zS) (h0 : iX12 T k0) {g : zG} {v : Option Value} {S' : zS} (r : ((Int32 × Int32) ⊕ Int32)) (h : fX12_richest_b75 T k0 x1 x2 S = some r) (K1 : ∀ a : (Int32 × Int32), r = .inl a → zg g 1 mX12_richest T 4 [some (.ref k0), some (.int a.1), some (.int a.2), none, none] [] T S v T S') (K2_0 : ∀ e : Int32, r = .inr e → zg g 1 mX12_richest T 83 [none, some (.int e), none, none, none] [] T S v T S') : zg g 1 mX12_richest T 75 [some (.ref k0), some (.int x1), some (.int x2), none, none] [] T S v T S' := by
  unfold fX12_richest_b75 at h
  refine z_iload_n dX12_richest_75 rfl ?_
  exact z_mask [true, false, true, false, false] rfl (tX12_richest_b76 T k0 x2 x1 S h0 r h K1 K2_0)
set_option maxHeartbeats 4000000 in
set_option maxRecDepth 100000 in
theorem tX12_richest_l4b (T : zT) (k0 : Nat) (S : zS) (x1 : Int32) (x2 : Int32) (h0 : iX12 T k0) {g : zG} {v : Option Value} {S' : zS} (r : (Int32 × Int32) ⊕ Int32) (h : fX12_richest_l4 T k0 S x1 x2 = some r) (K1 : ∀ a : (Int32 × Int32), r = .inl a → zg g 1 mX12_richest T 4 [some (.ref k0), some (.int a.1), some (.int a.2), none, none] [] T S v T S') (K2_0 : ∀ e : Int32, r = .inr e → zg g 1 mX12_richest T 83 [none, some (.int e), none, none, none] [] T S v T S') : zg g 1 mX12_richest T 4 [some (.ref k0), some (.int x1), some (.int x2), none, none] [] T S v T S' := by
  unfold fX12_richest_l4 at h
  refine z_iload_n dX12_richest_4 rfl ?_
  refine z_sipush dX12_richest_5 cS_256 ?_
  refine z_icmp_ge (tgt := 83) dX12_richest_8 (by decide) (fun q1 => ?_) (fun q1 => ?_)
  · rw [if_pos q1] at h
    cases h
    exact z_mask [false, true, false, false, false] rfl (K2_0 _ rfl)
  · rw [if_neg q1] at h
    refine z_aload_n dX12_richest_11 rfl ?_
    refine z_iload_n dX12_richest_12 rfl ?_
    obtain ⟨r2, hc3, h⟩ := zb1_elim h
    refine z_callV (As := [.int x2]) zcX12 zkX12_488 ziX12_planned zqX12_planned h0.1 (tX12_planned T k0 x2 S h0 r2 hc3) rfl rfl (Nat.le_of_ble_eq_true rfl) (by decide) ⟨Nat.le_refl _, Nat.le_refl _⟩ ⟨Nat.le_refl _, Nat.le_refl _⟩ dX12_richest_13 ?_
    refine z_istore_n dX12_richest_16 rfl (by decide) rfl ?_
    refine z_iconst dX12_richest_17 cI_0 ?_
    refine z_istore dX12_richest_18 rfl (by decide) rfl ?_
    obtain ⟨e9, hl15, h⟩ := zb1_elim h
    obtain ⟨nf16, hl15⟩ := lp_some hl15
    refine z_mask [true, true, true, true, true] rfl (tX12_richest_l20 T k0 x1 x2 S h0 nf16 (r2, 0) e9 hl15 (fun e_ q => ?_))
    · cases q
      refine z_aload_n dX12_richest_57 rfl ?_
      refine z_iload_n dX12_richest_58 rfl ?_
      obtain ⟨r10, hc11, h⟩ := zb1_elim h
      refine z_callV (As := [.int x2]) zcX12 zkX12_488 ziX12_planned zqX12_planned h0.1 (tX12_planned T k0 x2 S h0 r10 hc11) rfl rfl (Nat.le_of_ble_eq_true rfl) (by decide) ⟨Nat.le_refl _, Nat.le_refl _⟩ ⟨Nat.le_refl _, Nat.le_refl _⟩ dX12_richest_59 ?_
      refine z_iconst dX12_richest_62 cI_m1 ?_
      refine z_icmp_eq (tgt := 75) dX12_richest_63 (by decide) (fun q12 => ?_) (fun q12 => ?_)
      · rw [if_pos q12] at h
        exact z_mask [true, true, true, false, false] rfl (tX12_richest_b75 T k0 x1 x2 S h0 r h K1 K2_0)
      · rw [if_neg q12] at h
        refine z_iload_n dX12_richest_66 rfl ?_
        refine z_iload_n dX12_richest_67 rfl ?_
        refine z_icmp_le (tgt := 75) dX12_richest_68 (by decide) (fun q14 => ?_) (fun q14 => ?_)
        · rw [if_pos q14] at h
          exact z_mask [true, true, true, false, false] rfl (tX12_richest_b75 T k0 x1 x2 S h0 r h K1 K2_0)
        · rw [if_neg q14] at h
          refine z_iload_n dX12_richest_71 rfl ?_
          refine z_goto (tgt := 76) dX12_richest_72 (by decide) ?_
          exact z_mask [true, false, true, false, false] rfl (tX12_richest_b76 T k0 x2 e9 S h0 r h K1 K2_0)
set_option maxHeartbeats 4000000 in
set_option maxRecDepth 100000 in
theorem tX12_richest_l4 (T : zT) (k0 : Nat) (S : zS) (h0 : iX12 T k0) {g : zG} {v : Option Value} {S' : zS} : ∀ (n : Nat) (a : (Int32 × Int32)) (e : Int32), lpn (fun a => fX12_richest_l4 T k0 S a.1 a.2) n a = some e → (∀ e1 : Int32, e = e1 → zg g 1 mX12_richest T 83 [none, some (.int e1), none, none, none] [] T S v T S') → zg g 1 mX12_richest T 4 [some (.ref k0), some (.int a.1), some (.int a.2), none, none] [] T S v T S' := by
  intro n
  induction n with
  | zero =>
    intro a e h
    cases h
  | succ n ih =>
    intro a e h k0_
    rcases lpn_succ h with ⟨a1, ha_, hb_⟩ | ha_
    · exact tX12_richest_l4b T k0 S a.1 a.2 h0 _ ha_ (fun a2 q => by cases q; exact ih a1 e hb_ k0_) (fun e1 q => by cases q)
    · exact tX12_richest_l4b T k0 S a.1 a.2 h0 _ ha_ (fun a2 q => by cases q) (fun e1 q => by cases q; exact k0_ _ rfl)
set_option maxHeartbeats 4000000 in
set_option maxRecDepth 100000 in
theorem tX12_richest (T : zT) (k0 : Nat) (S : zS) (h0 : iX12 T k0) (r : Int32) (h : fX12_richest T k0 S = some r) : zGM 1 mX12_richest [.ref k0] T S (some (.int r)) T S := by
  refine zGM_of zpnX12 rfl (Nat.le_of_ble_eq_true rfl) (fun g => ?_)
  show zg g 1 mX12_richest T 0 [some (.ref k0), none, none, none, none] [] T S (some (.int r)) T S
  unfold fX12_richest at h
  refine z_iconst dX12_richest_0 cI_m1 ?_
  refine z_istore_n dX12_richest_1 rfl (by decide) rfl ?_
  refine z_iconst dX12_richest_2 cI_0 ?_
  refine z_istore_n dX12_richest_3 rfl (by decide) rfl ?_
  obtain ⟨e17, hl18, h⟩ := zb1_elim h
  obtain ⟨nf19, hl18⟩ := lp_some hl18
  refine z_mask [true, true, true, false, false] rfl (tX12_richest_l4 T k0 S h0 nf19 ((-1), 0) e17 hl18 (fun e_ q => ?_))
  · cases q
    refine z_iload_n dX12_richest_83 rfl ?_
    cases h
    exact z_iret rfl dX12_richest_84
/-! X12_isRule -/
noncomputable def fX12_isRule (T : zT) (k0 : Nat) (x1 : Int32) (S : zS) : Option Int32 :=
  zb1 (fX12_in T ((x1 : Int32).toInt64) 0 ((((S.1 k0 5) - 1) : Int32).toInt64) S) fun r1 => zgd (zbl r1) (some r1)
set_option maxHeartbeats 4000000 in
set_option maxRecDepth 100000 in
theorem tX12_isRule (T : zT) (k0 : Nat) (x1 : Int32) (S : zS) (h0 : iX12 T k0) (r : Int32) (h : fX12_isRule T k0 x1 S = some r) : zGM 1 mX12_isRule [.ref k0, .int x1] T S (some (.int r)) T S := by
  refine zGM_of zpnX12 rfl (Nat.le_of_ble_eq_true rfl) (fun g => ?_)
  show zg g 1 mX12_isRule T 0 [some (.ref k0), some (.int x1)] [] T S (some (.int r)) T S
  unfold fX12_isRule at h
  refine z_iload_n dX12_isRule_0 rfl ?_
  refine z_i2l dX12_isRule_1 rfl ?_
  refine z_lconst (r := 0) dX12_isRule_2 rfl ?_
  refine z_aload_n dX12_isRule_3 rfl ?_
  refine z_gI (zF.x zfX12_360) h0.1 dX12_isRule_4 ?_
  refine z_iconst dX12_isRule_7 cI_1 ?_
  refine z_isub dX12_isRule_8 rfl ?_
  refine z_i2l dX12_isRule_9 rfl ?_
  obtain ⟨r1, hc2, h⟩ := zb1_elim h
  refine z_callS (As := [.long ((x1 : Int32).toInt64), .long 0, .long ((((S.1 k0 5) - 1) : Int32).toInt64)]) zkX12_201 zsX12_in (tX12_in T ((x1 : Int32).toInt64) 0 ((((S.1 k0 5) - 1) : Int32).toInt64) S  r1 hc2) rfl rfl (Nat.le_of_ble_eq_true rfl) (by decide) ⟨Nat.le_refl _, Nat.le_refl _⟩ ⟨Nat.le_refl _, Nat.le_refl _⟩ dX12_isRule_10 ?_
  obtain ⟨q3, h⟩ := zgd_elim h
  cases h
  exact z_zret rfl (zbl_ok q3) dX12_isRule_13
/-! X12_carries -/
noncomputable def fX12_carries (T : zT) (k0 : Nat) (x1 : Int32) (S : zS) : Option (Unit × zS) :=
  zlet (zI S k0 65 (980 * x1)) fun S1 => zgd (zin 0 1) (zlet (zI S1 (zr T k0 67) (0 : Int32).toNatClampNeg (S1.1 k0 36)) fun S3 => zb (fX12_carry T k0 (zr T k0 67) 1 1 S3) fun _ S6 => zgd (zin 0 1) (zlet (zI S6 k0 36 (S6.1 (zr T k0 67) (0 : Int32).toNatClampNeg)) fun S8 => zb (fX12_carry T k0 (zr T k0 12) 2400 300 S8) fun _ S11 => zb (fX12_carry T k0 (zr T k0 13) 2400 300 S11) fun _ S14 => zb (fX12_carry T k0 (zr T k0 14) 8 1 S14) fun _ S17 => zb (fX12_carry T k0 (zr T k0 15) 192 24 S17) fun _ S20 => zb (fX12_carry T k0 (zr T k0 16) 192 24 S20) fun _ S23 => zb (fX12_carry T k0 (zr T k0 17) 192 24 S23) fun _ S26 => zb (fX12_carry T k0 (zr T k0 19) 192 24 S26) fun _ S29 => zb (fX12_carry T k0 (zr T k0 20) 192 24 S29) fun _ S32 => zb (fX12_carry T k0 (zr T k0 22) 16 8 S32) fun _ S35 => zb (fX12_carry T k0 (zr T k0 23) 16 8 S35) fun _ S38 => zb (fX12_carry T k0 (zr T k0 24) 16 8 S38) fun _ S41 => zb (fX12_carry T k0 (zr T k0 25) 16 8 S41) fun _ S44 => zb (fX12_carry T k0 (zr T k0 26) 16 8 S44) fun _ S47 => zb (fX12_carry T k0 (zr T k0 27) 16 8 S47) fun _ S50 => zb (fX12_carry T k0 (zr T k0 28) 16 8 S50) fun _ S53 => zb (fX12_carry T k0 (zr T k0 29) 2 1 S53) fun _ S56 => zb (fX12_carry T k0 (zr T k0 30) 2 1 S56) fun _ S59 => zb (fX12_carry T k0 (zr T k0 31) 2 1 S59) fun _ S62 => zb (fX12_carry T k0 (zr T k0 32) 2 1 S62) fun _ S65 => zb (fX12_carry T k0 (zr T k0 33) 2 1 S65) fun _ S68 => zb (fX12_carry T k0 (zr T k0 37) 60 60 S68) fun _ S71 => zb (fX12_carry T k0 (zr T k0 38) 60 60 S71) fun _ S74 => zb (fX12_carry T k0 (zr T k0 39) 60 60 S74) fun _ S77 => some ((), S77)))
set_option maxHeartbeats 4000000 in
set_option maxRecDepth 100000 in
theorem tX12_carries (T : zT) (k0 : Nat) (x1 : Int32) (S : zS) (h0 : iX12 T k0) (r : Unit × zS) (h : fX12_carries T k0 x1 S = some r) : zGM 1 mX12_carries [.ref k0, .int x1] T S none T r.2 := by
  refine zGM_of zpnX12 rfl (Nat.le_of_ble_eq_true rfl) (fun g => ?_)
  show zg g 1 mX12_carries T 0 [some (.ref k0), some (.int x1)] [] T S none T r.2
  unfold fX12_carries at h
  refine z_aload_n dX12_carries_0 rfl ?_
  refine z_sipush dX12_carries_1 cS_980 ?_
  refine z_iload_n dX12_carries_4 rfl ?_
  refine z_imul dX12_carries_5 rfl ?_
  refine z_putI zfX12_560 h0.1 dX12_carries_6 ?_
  obtain ⟨S1, eS1, h⟩ := zlet_elim h
  refine z_tS eS1 ?_
  refine z_aload_n dX12_carries_9 rfl ?_
  refine z_gA (zF.x zfX12_136) h0.1 dX12_carries_10 ?_
  refine z_iconst dX12_carries_13 cI_0 ?_
  refine z_aload_n dX12_carries_14 rfl ?_
  refine z_gI (zF.x zfX12_351) h0.1 dX12_carries_15 ?_
  obtain ⟨q2, h⟩ := zgd_elim h
  refine z_iast h0.2.2.2.2.2.2.2.2.2.2.2.2.2.2.2.2.2.2.2.2.2.2.2.2.2.2.2.2.2.2.2.2.2.2.2.2.2.2.2.2.2.2 (zin_ok q2) dX12_carries_18 ?_
  obtain ⟨S3, eS3, h⟩ := zlet_elim h
  refine z_tS eS3 ?_
  refine z_aload_n dX12_carries_19 rfl ?_
  refine z_aload_n dX12_carries_20 rfl ?_
  refine z_gA (zF.x zfX12_136) h0.1 dX12_carries_21 ?_
  refine z_iconst dX12_carries_24 cI_1 ?_
  obtain ⟨r4, S6, hc5, h⟩ := zb_elim h
  refine z_callV (As := [.ref (zr T k0 67), .int 1]) zcX12 zkX12_563 ziX12_carry zqX12_carry h0.1 (tX12_carry T k0 (zr T k0 67) 1 1 S3 h0 h0.2.2.2.2.2.2.2.2.2.2.2.2.2.2.2.2.2.2.2.2.2.2.2.2.2.2.2.2.2.2.2.2.2.2.2.2.2.2.2.2.2.2 (r4, S6) hc5) rfl rfl (Nat.le_of_ble_eq_true rfl) (by decide) ⟨Nat.le_refl _, Nat.le_refl _⟩ ⟨Nat.le_refl _, Nat.le_refl _⟩ dX12_carries_25 ?_
  refine z_aload_n dX12_carries_28 rfl ?_
  refine z_aload_n dX12_carries_29 rfl ?_
  refine z_gA (zF.x zfX12_136) h0.1 dX12_carries_30 ?_
  refine z_iconst dX12_carries_33 cI_0 ?_
  obtain ⟨q7, h⟩ := zgd_elim h
  refine z_iald h0.2.2.2.2.2.2.2.2.2.2.2.2.2.2.2.2.2.2.2.2.2.2.2.2.2.2.2.2.2.2.2.2.2.2.2.2.2.2.2.2.2.2 (zin_ok q7) dX12_carries_34 ?_
  refine z_putI zfX12_351 h0.1 dX12_carries_35 ?_
  obtain ⟨S8, eS8, h⟩ := zlet_elim h
  refine z_tS eS8 ?_
  refine z_aload_n dX12_carries_38 rfl ?_
  refine z_aload_n dX12_carries_39 rfl ?_
  refine z_gA (zF.x zfX12_13) h0.1 dX12_carries_40 ?_
  refine z_sipush dX12_carries_43 cS_300 ?_
  obtain ⟨r9, S11, hc10, h⟩ := zb_elim h
  refine z_callV (As := [.ref (zr T k0 12), .int 300]) zcX12 zkX12_563 ziX12_carry zqX12_carry h0.1 (tX12_carry T k0 (zr T k0 12) 2400 300 S8 h0 h0.2.2.1 (r9, S11) hc10) rfl rfl (Nat.le_of_ble_eq_true rfl) (by decide) ⟨Nat.le_refl _, Nat.le_refl _⟩ ⟨Nat.le_refl _, Nat.le_refl _⟩ dX12_carries_46 ?_
  refine z_aload_n dX12_carries_49 rfl ?_
  refine z_aload_n dX12_carries_50 rfl ?_
  refine z_gA (zF.x zfX12_17) h0.1 dX12_carries_51 ?_
  refine z_sipush dX12_carries_54 cS_300 ?_
  obtain ⟨r12, S14, hc13, h⟩ := zb_elim h
  refine z_callV (As := [.ref (zr T k0 13), .int 300]) zcX12 zkX12_563 ziX12_carry zqX12_carry h0.1 (tX12_carry T k0 (zr T k0 13) 2400 300 S11 h0 h0.2.2.2.1 (r12, S14) hc13) rfl rfl (Nat.le_of_ble_eq_true rfl) (by decide) ⟨Nat.le_refl _, Nat.le_refl _⟩ ⟨Nat.le_refl _, Nat.le_refl _⟩ dX12_carries_57 ?_
  refine z_aload_n dX12_carries_60 rfl ?_
  refine z_aload_n dX12_carries_61 rfl ?_
  refine z_gA (zF.x zfX12_20) h0.1 dX12_carries_62 ?_
  refine z_iconst dX12_carries_65 cI_1 ?_
  obtain ⟨r15, S17, hc16, h⟩ := zb_elim h
  refine z_callV (As := [.ref (zr T k0 14), .int 1]) zcX12 zkX12_563 ziX12_carry zqX12_carry h0.1 (tX12_carry T k0 (zr T k0 14) 8 1 S14 h0 h0.2.2.2.2.1 (r15, S17) hc16) rfl rfl (Nat.le_of_ble_eq_true rfl) (by decide) ⟨Nat.le_refl _, Nat.le_refl _⟩ ⟨Nat.le_refl _, Nat.le_refl _⟩ dX12_carries_66 ?_
  refine z_aload_n dX12_carries_69 rfl ?_
  refine z_aload_n dX12_carries_70 rfl ?_
  refine z_gA (zF.x zfX12_23) h0.1 dX12_carries_71 ?_
  refine z_bipush dX12_carries_74 cB_24 ?_
  obtain ⟨r18, S20, hc19, h⟩ := zb_elim h
  refine z_callV (As := [.ref (zr T k0 15), .int 24]) zcX12 zkX12_563 ziX12_carry zqX12_carry h0.1 (tX12_carry T k0 (zr T k0 15) 192 24 S17 h0 h0.2.2.2.2.2.1 (r18, S20) hc19) rfl rfl (Nat.le_of_ble_eq_true rfl) (by decide) ⟨Nat.le_refl _, Nat.le_refl _⟩ ⟨Nat.le_refl _, Nat.le_refl _⟩ dX12_carries_76 ?_
  refine z_aload_n dX12_carries_79 rfl ?_
  refine z_aload_n dX12_carries_80 rfl ?_
  refine z_gA (zF.x zfX12_26) h0.1 dX12_carries_81 ?_
  refine z_bipush dX12_carries_84 cB_24 ?_
  obtain ⟨r21, S23, hc22, h⟩ := zb_elim h
  refine z_callV (As := [.ref (zr T k0 16), .int 24]) zcX12 zkX12_563 ziX12_carry zqX12_carry h0.1 (tX12_carry T k0 (zr T k0 16) 192 24 S20 h0 h0.2.2.2.2.2.2.1 (r21, S23) hc22) rfl rfl (Nat.le_of_ble_eq_true rfl) (by decide) ⟨Nat.le_refl _, Nat.le_refl _⟩ ⟨Nat.le_refl _, Nat.le_refl _⟩ dX12_carries_86 ?_
  refine z_aload_n dX12_carries_89 rfl ?_
  refine z_aload_n dX12_carries_90 rfl ?_
  refine z_gA (zF.x zfX12_29) h0.1 dX12_carries_91 ?_
  refine z_bipush dX12_carries_94 cB_24 ?_
  obtain ⟨r24, S26, hc25, h⟩ := zb_elim h
  refine z_callV (As := [.ref (zr T k0 17), .int 24]) zcX12 zkX12_563 ziX12_carry zqX12_carry h0.1 (tX12_carry T k0 (zr T k0 17) 192 24 S23 h0 h0.2.2.2.2.2.2.2.1 (r24, S26) hc25) rfl rfl (Nat.le_of_ble_eq_true rfl) (by decide) ⟨Nat.le_refl _, Nat.le_refl _⟩ ⟨Nat.le_refl _, Nat.le_refl _⟩ dX12_carries_96 ?_
  refine z_aload_n dX12_carries_99 rfl ?_
  refine z_aload_n dX12_carries_100 rfl ?_
  refine z_gA (zF.x zfX12_35) h0.1 dX12_carries_101 ?_
  refine z_bipush dX12_carries_104 cB_24 ?_
  obtain ⟨r27, S29, hc28, h⟩ := zb_elim h
  refine z_callV (As := [.ref (zr T k0 19), .int 24]) zcX12 zkX12_563 ziX12_carry zqX12_carry h0.1 (tX12_carry T k0 (zr T k0 19) 192 24 S26 h0 h0.2.2.2.2.2.2.2.2.2.1 (r27, S29) hc28) rfl rfl (Nat.le_of_ble_eq_true rfl) (by decide) ⟨Nat.le_refl _, Nat.le_refl _⟩ ⟨Nat.le_refl _, Nat.le_refl _⟩ dX12_carries_106 ?_
  refine z_aload_n dX12_carries_109 rfl ?_
  refine z_aload_n dX12_carries_110 rfl ?_
  refine z_gA (zF.x zfX12_38) h0.1 dX12_carries_111 ?_
  refine z_bipush dX12_carries_114 cB_24 ?_
  obtain ⟨r30, S32, hc31, h⟩ := zb_elim h
  refine z_callV (As := [.ref (zr T k0 20), .int 24]) zcX12 zkX12_563 ziX12_carry zqX12_carry h0.1 (tX12_carry T k0 (zr T k0 20) 192 24 S29 h0 h0.2.2.2.2.2.2.2.2.2.2.1 (r30, S32) hc31) rfl rfl (Nat.le_of_ble_eq_true rfl) (by decide) ⟨Nat.le_refl _, Nat.le_refl _⟩ ⟨Nat.le_refl _, Nat.le_refl _⟩ dX12_carries_116 ?_
  refine z_aload_n dX12_carries_119 rfl ?_
  refine z_aload_n dX12_carries_120 rfl ?_
  refine z_gA (zF.x zfX12_44) h0.1 dX12_carries_121 ?_
  refine z_bipush dX12_carries_124 cB_8 ?_
  obtain ⟨r33, S35, hc34, h⟩ := zb_elim h
  refine z_callV (As := [.ref (zr T k0 22), .int 8]) zcX12 zkX12_563 ziX12_carry zqX12_carry h0.1 (tX12_carry T k0 (zr T k0 22) 16 8 S32 h0 h0.2.2.2.2.2.2.2.2.2.2.2.2.1 (r33, S35) hc34) rfl rfl (Nat.le_of_ble_eq_true rfl) (by decide) ⟨Nat.le_refl _, Nat.le_refl _⟩ ⟨Nat.le_refl _, Nat.le_refl _⟩ dX12_carries_126 ?_
  refine z_aload_n dX12_carries_129 rfl ?_
  refine z_aload_n dX12_carries_130 rfl ?_
  refine z_gA (zF.x zfX12_47) h0.1 dX12_carries_131 ?_
  refine z_bipush dX12_carries_134 cB_8 ?_
  obtain ⟨r36, S38, hc37, h⟩ := zb_elim h
  refine z_callV (As := [.ref (zr T k0 23), .int 8]) zcX12 zkX12_563 ziX12_carry zqX12_carry h0.1 (tX12_carry T k0 (zr T k0 23) 16 8 S35 h0 h0.2.2.2.2.2.2.2.2.2.2.2.2.2.1 (r36, S38) hc37) rfl rfl (Nat.le_of_ble_eq_true rfl) (by decide) ⟨Nat.le_refl _, Nat.le_refl _⟩ ⟨Nat.le_refl _, Nat.le_refl _⟩ dX12_carries_136 ?_
  refine z_aload_n dX12_carries_139 rfl ?_
  refine z_aload_n dX12_carries_140 rfl ?_
  refine z_gA (zF.x zfX12_50) h0.1 dX12_carries_141 ?_
  refine z_bipush dX12_carries_144 cB_8 ?_
  obtain ⟨r39, S41, hc40, h⟩ := zb_elim h
  refine z_callV (As := [.ref (zr T k0 24), .int 8]) zcX12 zkX12_563 ziX12_carry zqX12_carry h0.1 (tX12_carry T k0 (zr T k0 24) 16 8 S38 h0 h0.2.2.2.2.2.2.2.2.2.2.2.2.2.2.1 (r39, S41) hc40) rfl rfl (Nat.le_of_ble_eq_true rfl) (by decide) ⟨Nat.le_refl _, Nat.le_refl _⟩ ⟨Nat.le_refl _, Nat.le_refl _⟩ dX12_carries_146 ?_
  refine z_aload_n dX12_carries_149 rfl ?_
  refine z_aload_n dX12_carries_150 rfl ?_
  refine z_gA (zF.x zfX12_53) h0.1 dX12_carries_151 ?_
  refine z_bipush dX12_carries_154 cB_8 ?_
  obtain ⟨r42, S44, hc43, h⟩ := zb_elim h
  refine z_callV (As := [.ref (zr T k0 25), .int 8]) zcX12 zkX12_563 ziX12_carry zqX12_carry h0.1 (tX12_carry T k0 (zr T k0 25) 16 8 S41 h0 h0.2.2.2.2.2.2.2.2.2.2.2.2.2.2.2.1 (r42, S44) hc43) rfl rfl (Nat.le_of_ble_eq_true rfl) (by decide) ⟨Nat.le_refl _, Nat.le_refl _⟩ ⟨Nat.le_refl _, Nat.le_refl _⟩ dX12_carries_156 ?_
  refine z_aload_n dX12_carries_159 rfl ?_
  refine z_aload_n dX12_carries_160 rfl ?_
  refine z_gA (zF.x zfX12_56) h0.1 dX12_carries_161 ?_
  refine z_bipush dX12_carries_164 cB_8 ?_
  obtain ⟨r45, S47, hc46, h⟩ := zb_elim h
  refine z_callV (As := [.ref (zr T k0 26), .int 8]) zcX12 zkX12_563 ziX12_carry zqX12_carry h0.1 (tX12_carry T k0 (zr T k0 26) 16 8 S44 h0 h0.2.2.2.2.2.2.2.2.2.2.2.2.2.2.2.2.1 (r45, S47) hc46) rfl rfl (Nat.le_of_ble_eq_true rfl) (by decide) ⟨Nat.le_refl _, Nat.le_refl _⟩ ⟨Nat.le_refl _, Nat.le_refl _⟩ dX12_carries_166 ?_
  refine z_aload_n dX12_carries_169 rfl ?_
  refine z_aload_n dX12_carries_170 rfl ?_
  refine z_gA (zF.x zfX12_59) h0.1 dX12_carries_171 ?_
  refine z_bipush dX12_carries_174 cB_8 ?_
  obtain ⟨r48, S50, hc49, h⟩ := zb_elim h
  refine z_callV (As := [.ref (zr T k0 27), .int 8]) zcX12 zkX12_563 ziX12_carry zqX12_carry h0.1 (tX12_carry T k0 (zr T k0 27) 16 8 S47 h0 h0.2.2.2.2.2.2.2.2.2.2.2.2.2.2.2.2.2.1 (r48, S50) hc49) rfl rfl (Nat.le_of_ble_eq_true rfl) (by decide) ⟨Nat.le_refl _, Nat.le_refl _⟩ ⟨Nat.le_refl _, Nat.le_refl _⟩ dX12_carries_176 ?_
  refine z_aload_n dX12_carries_179 rfl ?_
  refine z_aload_n dX12_carries_180 rfl ?_
  refine z_gA (zF.x zfX12_62) h0.1 dX12_carries_181 ?_
  refine z_bipush dX12_carries_184 cB_8 ?_
  obtain ⟨r51, S53, hc52, h⟩ := zb_elim h
  refine z_callV (As := [.ref (zr T k0 28), .int 8]) zcX12 zkX12_563 ziX12_carry zqX12_carry h0.1 (tX12_carry T k0 (zr T k0 28) 16 8 S50 h0 h0.2.2.2.2.2.2.2.2.2.2.2.2.2.2.2.2.2.2.1 (r51, S53) hc52) rfl rfl (Nat.le_of_ble_eq_true rfl) (by decide) ⟨Nat.le_refl _, Nat.le_refl _⟩ ⟨Nat.le_refl _, Nat.le_refl _⟩ dX12_carries_186 ?_
  refine z_aload_n dX12_carries_189 rfl ?_
  refine z_aload_n dX12_carries_190 rfl ?_
  refine z_gA (zF.x zfX12_65) h0.1 dX12_carries_191 ?_
  refine z_iconst dX12_carries_194 cI_1 ?_
  obtain ⟨r54, S56, hc55, h⟩ := zb_elim h
  refine z_callV (As := [.ref (zr T k0 29), .int 1]) zcX12 zkX12_563 ziX12_carry zqX12_carry h0.1 (tX12_carry T k0 (zr T k0 29) 2 1 S53 h0 h0.2.2.2.2.2.2.2.2.2.2.2.2.2.2.2.2.2.2.2.1 (r54, S56) hc55) rfl rfl (Nat.le_of_ble_eq_true rfl) (by decide) ⟨Nat.le_refl _, Nat.le_refl _⟩ ⟨Nat.le_refl _, Nat.le_refl _⟩ dX12_carries_195 ?_
  refine z_aload_n dX12_carries_198 rfl ?_
  refine z_aload_n dX12_carries_199 rfl ?_
  refine z_gA (zF.x zfX12_68) h0.1 dX12_carries_200 ?_
  refine z_iconst dX12_carries_203 cI_1 ?_
  obtain ⟨r57, S59, hc58, h⟩ := zb_elim h
  refine z_callV (As := [.ref (zr T k0 30), .int 1]) zcX12 zkX12_563 ziX12_carry zqX12_carry h0.1 (tX12_carry T k0 (zr T k0 30) 2 1 S56 h0 h0.2.2.2.2.2.2.2.2.2.2.2.2.2.2.2.2.2.2.2.2.1 (r57, S59) hc58) rfl rfl (Nat.le_of_ble_eq_true rfl) (by decide) ⟨Nat.le_refl _, Nat.le_refl _⟩ ⟨Nat.le_refl _, Nat.le_refl _⟩ dX12_carries_204 ?_
  refine z_aload_n dX12_carries_207 rfl ?_
  refine z_aload_n dX12_carries_208 rfl ?_
  refine z_gA (zF.x zfX12_71) h0.1 dX12_carries_209 ?_
  refine z_iconst dX12_carries_212 cI_1 ?_
  obtain ⟨r60, S62, hc61, h⟩ := zb_elim h
  refine z_callV (As := [.ref (zr T k0 31), .int 1]) zcX12 zkX12_563 ziX12_carry zqX12_carry h0.1 (tX12_carry T k0 (zr T k0 31) 2 1 S59 h0 h0.2.2.2.2.2.2.2.2.2.2.2.2.2.2.2.2.2.2.2.2.2.1 (r60, S62) hc61) rfl rfl (Nat.le_of_ble_eq_true rfl) (by decide) ⟨Nat.le_refl _, Nat.le_refl _⟩ ⟨Nat.le_refl _, Nat.le_refl _⟩ dX12_carries_213 ?_
  refine z_aload_n dX12_carries_216 rfl ?_
  refine z_aload_n dX12_carries_217 rfl ?_
  refine z_gA (zF.x zfX12_74) h0.1 dX12_carries_218 ?_
  refine z_iconst dX12_carries_221 cI_1 ?_
  obtain ⟨r63, S65, hc64, h⟩ := zb_elim h
  refine z_callV (As := [.ref (zr T k0 32), .int 1]) zcX12 zkX12_563 ziX12_carry zqX12_carry h0.1 (tX12_carry T k0 (zr T k0 32) 2 1 S62 h0 h0.2.2.2.2.2.2.2.2.2.2.2.2.2.2.2.2.2.2.2.2.2.2.1 (r63, S65) hc64) rfl rfl (Nat.le_of_ble_eq_true rfl) (by decide) ⟨Nat.le_refl _, Nat.le_refl _⟩ ⟨Nat.le_refl _, Nat.le_refl _⟩ dX12_carries_222 ?_
  refine z_aload_n dX12_carries_225 rfl ?_
  refine z_aload_n dX12_carries_226 rfl ?_
  refine z_gA (zF.x zfX12_77) h0.1 dX12_carries_227 ?_
  refine z_iconst dX12_carries_230 cI_1 ?_
  obtain ⟨r66, S68, hc67, h⟩ := zb_elim h
  refine z_callV (As := [.ref (zr T k0 33), .int 1]) zcX12 zkX12_563 ziX12_carry zqX12_carry h0.1 (tX12_carry T k0 (zr T k0 33) 2 1 S65 h0 h0.2.2.2.2.2.2.2.2.2.2.2.2.2.2.2.2.2.2.2.2.2.2.2.1 (r66, S68) hc67) rfl rfl (Nat.le_of_ble_eq_true rfl) (by decide) ⟨Nat.le_refl _, Nat.le_refl _⟩ ⟨Nat.le_refl _, Nat.le_refl _⟩ dX12_carries_231 ?_
  refine z_aload_n dX12_carries_234 rfl ?_
  refine z_aload_n dX12_carries_235 rfl ?_
  refine z_gA (zF.x zfX12_87) h0.1 dX12_carries_236 ?_
  refine z_bipush dX12_carries_239 cB_60 ?_
  obtain ⟨r69, S71, hc70, h⟩ := zb_elim h
  refine z_callV (As := [.ref (zr T k0 37), .int 60]) zcX12 zkX12_563 ziX12_carry zqX12_carry h0.1 (tX12_carry T k0 (zr T k0 37) 60 60 S68 h0 h0.2.2.2.2.2.2.2.2.2.2.2.2.2.2.2.2.2.2.2.2.2.2.2.2.2.2.1 (r69, S71) hc70) rfl rfl (Nat.le_of_ble_eq_true rfl) (by decide) ⟨Nat.le_refl _, Nat.le_refl _⟩ ⟨Nat.le_refl _, Nat.le_refl _⟩ dX12_carries_241 ?_
  refine z_aload_n dX12_carries_244 rfl ?_
  refine z_aload_n dX12_carries_245 rfl ?_
  refine z_gA (zF.x zfX12_90) h0.1 dX12_carries_246 ?_
  refine z_bipush dX12_carries_249 cB_60 ?_
  obtain ⟨r72, S74, hc73, h⟩ := zb_elim h
  refine z_callV (As := [.ref (zr T k0 38), .int 60]) zcX12 zkX12_563 ziX12_carry zqX12_carry h0.1 (tX12_carry T k0 (zr T k0 38) 60 60 S71 h0 h0.2.2.2.2.2.2.2.2.2.2.2.2.2.2.2.2.2.2.2.2.2.2.2.2.2.2.2.1 (r72, S74) hc73) rfl rfl (Nat.le_of_ble_eq_true rfl) (by decide) ⟨Nat.le_refl _, Nat.le_refl _⟩ ⟨Nat.le_refl _, Nat.le_refl _⟩ dX12_carries_251 ?_
  refine z_aload_n dX12_carries_254 rfl ?_
  refine z_aload_n dX12_carries_255 rfl ?_
  refine z_gA (zF.x zfX12_93) h0.1 dX12_carries_256 ?_
  refine z_bipush dX12_carries_259 cB_60 ?_
  obtain ⟨r75, S77, hc76, h⟩ := zb_elim h
  refine z_callV (As := [.ref (zr T k0 39), .int 60]) zcX12 zkX12_563 ziX12_carry zqX12_carry h0.1 (tX12_carry T k0 (zr T k0 39) 60 60 S74 h0 h0.2.2.2.2.2.2.2.2.2.2.2.2.2.2.2.2.2.2.2.2.2.2.2.2.2.2.2.2.1 (r75, S77) hc76) rfl rfl (Nat.le_of_ble_eq_true rfl) (by decide) ⟨Nat.le_refl _, Nat.le_refl _⟩ ⟨Nat.le_refl _, Nat.le_refl _⟩ dX12_carries_261 ?_
  cases h
  exact z_vret rfl dX12_carries_264
/-! X12_digits -/
noncomputable def fX12_digits_b58 (T : zT) (k0 : Nat) (x1 : Int32) (x2 : Int32) (s0 : Int32) (S : zS) : Option ((Int32 × zS) ⊕ (Int32 × zS)) :=
  zlet (zI S k0 2 ((S.1 k0 2) + 1)) fun S9 => some (.inl (s0, S9))
noncomputable def fX12_digits_l25 (T : zT) (k0 : Nat) (x1 : Int32) (x2 : Int32) (x3 : Int32) (S : zS) : Option ((Int32 × zS) ⊕ (Int32 × zS)) :=
  zb1 (fX12_isDigit T k0 S) fun r5 => if r5 = 0 then some (.inr (x3, S)) else if 5 ≤ ((S.1 k0 2) - x2) then fX12_digits_b58 T k0 x1 x2 x3 S else zb1 (fX12_sign T k0 S) fun r10 => fX12_digits_b58 T k0 x1 x2 (((10 * x3) + r10) - 48) S
noncomputable def fX12_digits_b93 (T : zT) (x3 : Int32) (S : zS) : Option (Int32 × zS) :=
  some (x3, S)
noncomputable def fX12_digits_b87 (T : zT) (k0 : Nat) (x2 : Int32) (x3 : Int32) (S : zS) : Option (Int32 × zS) :=
  zb (fX12_fails T k0 1 x2 S) fun _ S16 => fX12_digits_b93 T x3 S16
noncomputable def fX12_digits (T : zT) (k0 : Nat) (x1 : Int32) (S : zS) : Option (Int32 × zS) :=
  zb1 (fX12_isDigit T k0 S) fun r1 => if r1 = 0 then zb (fX12_fails T k0 0 (S.1 k0 2) S) fun _ S22 => some (0, S22) else zlet (S.1 k0 2) fun u4 => zb1 (lp (fun a => fX12_digits_l25 T k0 x1 u4 a.1 a.2) (0, S)) fun e12 => if 5 < ((e12.2.1 k0 2) - u4) then fX12_digits_b87 T k0 u4 e12.1 e12.2 else if e12.1 ≤ x1 then fX12_digits_b93 T e12.1 e12.2 else fX12_digits_b87 T k0 u4 e12.1 e12.2
set_option maxHeartbeats 4000000 in
set_option maxRecDepth 100000 in
theorem tX12_digits_b58 (T : zT) (k0 : Nat) (x1 : Int32) (x2 : Int32) (s0 : Int32) (S : zS) (h0 : iX12 T k0) {g : zG} {v : Option Value} {S' : zS} (r : ((Int32 × zS) ⊕ (Int32 × zS))) (h : fX12_digits_b58 T k0 x1 x2 s0 S = some r) (K1 : ∀ a : (Int32 × zS), r = .inl a → zg g 2 mX12_digits T 25 [some (.ref k0), some (.int x1), some (.int x2), some (.int a.1)] [] T a.2 v T S') (K2_0 : ∀ e : (Int32 × zS), r = .inr e → zg g 2 mX12_digits T 72 [some (.ref k0), some (.int x1), some (.int x2), some (.int e.1)] [] T e.2 v T S') : zg g 2 mX12_digits T 58 [some (.ref k0), some (.int x1), some (.int x2), none] [.int s0] T S v T S' := by
  unfold fX12_digits_b58 at h
  refine z_istore_n dX12_digits_58 rfl (by decide) rfl ?_
  refine z_aload_n dX12_digits_59 rfl ?_
  refine z_dup dX12_digits_60 rfl ?_
  refine z_gI (zF.x zfX12_190) h0.1 dX12_digits_61 ?_
  refine z_iconst dX12_digits_64 cI_1 ?_
  refine z_iadd dX12_digits_65 rfl ?_
  refine z_putI zfX12_190 h0.1 dX12_digits_66 ?_
  obtain ⟨S9, eS9, h⟩ := zlet_elim h
  refine z_tS eS9 ?_
  refine z_goto (tgt := 25) dX12_digits_69 (by decide) ?_
  cases h
  exact z_mask [true, true, true, true] rfl (K1 _ rfl)
set_option maxHeartbeats 4000000 in
set_option maxRecDepth 100000 in
theorem tX12_digits_l25b (T : zT) (k0 : Nat) (x1 : Int32) (x2 : Int32) (x3 : Int32) (S : zS) (h0 : iX12 T k0) {g : zG} {v : Option Value} {S' : zS} (r : (Int32 × zS) ⊕ (Int32 × zS)) (h : fX12_digits_l25 T k0 x1 x2 x3 S = some r) (K1 : ∀ a : (Int32 × zS), r = .inl a → zg g 2 mX12_digits T 25 [some (.ref k0), some (.int x1), some (.int x2), some (.int a.1)] [] T a.2 v T S') (K2_0 : ∀ e : (Int32 × zS), r = .inr e → zg g 2 mX12_digits T 72 [some (.ref k0), some (.int x1), some (.int x2), some (.int e.1)] [] T e.2 v T S') : zg g 2 mX12_digits T 25 [some (.ref k0), some (.int x1), some (.int x2), some (.int x3)] [] T S v T S' := by
  unfold fX12_digits_l25 at h
  refine z_aload_n dX12_digits_25 rfl ?_
  obtain ⟨r5, hc6, h⟩ := zb1_elim h
  refine z_callV (As := []) zcX12 zkX12_230 ziX12_isDigit zqX12_isDigit h0.1 (tX12_isDigit T k0 S h0 r5 hc6) rfl rfl (Nat.le_of_ble_eq_true rfl) (by decide) ⟨Nat.le_refl _, Nat.le_refl _⟩ ⟨Nat.le_refl _, Nat.le_refl _⟩ dX12_digits_26 ?_
  refine z_if_eq (tgt := 72) dX12_digits_29 (by decide) (fun q7 => ?_) (fun q7 => ?_)
  · rw [if_pos q7] at h
    cases h
    exact z_mask [true, true, true, true] rfl (K2_0 _ rfl)
  · rw [if_neg q7] at h
    refine z_aload_n dX12_digits_32 rfl ?_
    refine z_gI (zF.x zfX12_190) h0.1 dX12_digits_33 ?_
    refine z_iload_n dX12_digits_36 rfl ?_
    refine z_isub dX12_digits_37 rfl ?_
    refine z_iconst dX12_digits_38 cI_5 ?_
    refine z_icmp_ge (tgt := 57) dX12_digits_39 (by decide) (fun q8 => ?_) (fun q8 => ?_)
    · rw [if_pos q8] at h
      refine z_iload_n dX12_digits_57 rfl ?_
      exact z_mask [true, true, true, false] rfl (tX12_digits_b58 T k0 x1 x2 x3 S h0 r h K1 K2_0)
    · rw [if_neg q8] at h
      refine z_bipush dX12_digits_42 cB_10 ?_
      refine z_iload_n dX12_digits_44 rfl ?_
      refine z_imul dX12_digits_45 rfl ?_
      refine z_aload_n dX12_digits_46 rfl ?_
      obtain ⟨r10, hc11, h⟩ := zb1_elim h
      refine z_callV (As := []) zcX12 zkX12_193 ziX12_sign zqX12_sign h0.1 (tX12_sign T k0 S h0 r10 hc11) rfl rfl (Nat.le_of_ble_eq_true rfl) (by decide) ⟨Nat.le_refl _, Nat.le_refl _⟩ ⟨Nat.le_refl _, Nat.le_refl _⟩ dX12_digits_47 ?_
      refine z_iadd dX12_digits_50 rfl ?_
      refine z_bipush dX12_digits_51 cB_48 ?_
      refine z_isub dX12_digits_53 rfl ?_
      refine z_goto (tgt := 58) dX12_digits_54 (by decide) ?_
      exact z_mask [true, true, true, false] rfl (tX12_digits_b58 T k0 x1 x2 (((10 * x3) + r10) - 48) S h0 r h K1 K2_0)
set_option maxHeartbeats 4000000 in
set_option maxRecDepth 100000 in
theorem tX12_digits_l25 (T : zT) (k0 : Nat) (x1 : Int32) (x2 : Int32) (h0 : iX12 T k0) {g : zG} {v : Option Value} {S' : zS} : ∀ (n : Nat) (a : (Int32 × zS)) (e : (Int32 × zS)), lpn (fun a => fX12_digits_l25 T k0 x1 x2 a.1 a.2) n a = some e → (∀ e1 : (Int32 × zS), e = e1 → zg g 2 mX12_digits T 72 [some (.ref k0), some (.int x1), some (.int x2), some (.int e1.1)] [] T e1.2 v T S') → zg g 2 mX12_digits T 25 [some (.ref k0), some (.int x1), some (.int x2), some (.int a.1)] [] T a.2 v T S' := by
  intro n
  induction n with
  | zero =>
    intro a e h
    cases h
  | succ n ih =>
    intro a e h k0_
    rcases lpn_succ h with ⟨a1, ha_, hb_⟩ | ha_
    · exact tX12_digits_l25b T k0 x1 x2 a.1 a.2 h0 _ ha_ (fun a2 q => by cases q; exact ih a1 e hb_ k0_) (fun e1 q => by cases q)
    · exact tX12_digits_l25b T k0 x1 x2 a.1 a.2 h0 _ ha_ (fun a2 q => by cases q) (fun e1 q => by cases q; exact k0_ _ rfl)
set_option maxHeartbeats 4000000 in
set_option maxRecDepth 100000 in
theorem tX12_digits_b93 (T : zT) (x3 : Int32) (S : zS)  {g : zG} (r : (Int32 × zS)) (h : fX12_digits_b93 T x3 S = some r)  : zg g 2 mX12_digits T 93 [none, none, none, some (.int x3)] [] T S (some (.int r.1)) T r.2 := by
  unfold fX12_digits_b93 at h
  refine z_iload_n dX12_digits_93 rfl ?_
  cases h
  exact z_iret rfl dX12_digits_94
set_option maxHeartbeats 4000000 in
set_option maxRecDepth 100000 in
theorem tX12_digits_b87 (T : zT) (k0 : Nat) (x2 : Int32) (x3 : Int32) (S : zS) (h0 : iX12 T k0) {g : zG} (r : (Int32 × zS)) (h : fX12_digits_b87 T k0 x2 x3 S = some r)  : zg g 2 mX12_digits T 87 [some (.ref k0), none, some (.int x2), some (.int x3)] [] T S (some (.int r.1)) T r.2 := by
  unfold fX12_digits_b87 at h
  refine z_aload_n dX12_digits_87 rfl ?_
  refine z_iconst dX12_digits_88 cI_1 ?_
  refine z_iload_n dX12_digits_89 rfl ?_
  obtain ⟨r14, S16, hc15, h⟩ := zb_elim h
  refine z_callV (As := [.int 1, .int x2]) zcX12 zkX12_226 ziX12_fails zqX12_fails h0.1 (tX12_fails T k0 1 x2 S h0 (r14, S16) hc15) rfl rfl (Nat.le_of_ble_eq_true rfl) (by decide) ⟨Nat.le_refl _, Nat.le_refl _⟩ ⟨Nat.le_refl _, Nat.le_refl _⟩ dX12_digits_90 ?_
  exact z_mask [false, false, false, true] rfl (tX12_digits_b93 T x3 S16  r h)
set_option maxHeartbeats 4000000 in
set_option maxRecDepth 100000 in
theorem tX12_digits (T : zT) (k0 : Nat) (x1 : Int32) (S : zS) (h0 : iX12 T k0) (r : Int32 × zS) (h : fX12_digits T k0 x1 S = some r) : zGM 2 mX12_digits [.ref k0, .int x1] T S (some (.int r.1)) T r.2 := by
  refine zGM_of zpnX12 rfl (Nat.le_of_ble_eq_true rfl) (fun g => ?_)
  show zg g 2 mX12_digits T 0 [some (.ref k0), some (.int x1), none, none] [] T S (some (.int r.1)) T r.2
  unfold fX12_digits at h
  refine z_aload_n dX12_digits_0 rfl ?_
  obtain ⟨r1, hc2, h⟩ := zb1_elim h
  refine z_callV (As := []) zcX12 zkX12_230 ziX12_isDigit zqX12_isDigit h0.1 (tX12_isDigit T k0 S h0 r1 hc2) rfl rfl (Nat.le_of_ble_eq_true rfl) (by decide) ⟨Nat.le_refl _, Nat.le_refl _⟩ ⟨Nat.le_refl _, Nat.le_refl _⟩ dX12_digits_1 ?_
  refine z_if_ne (tgt := 18) dX12_digits_4 (by decide) (fun q3 => ?_) (fun q3 => ?_)
  · rw [if_neg q3] at h
    refine z_aload_n dX12_digits_18 rfl ?_
    refine z_gI (zF.x zfX12_190) h0.1 dX12_digits_19 ?_
    obtain ⟨u4, eu4, h⟩ := zlet_elim h
    refine z_ti eu4 ?_
    refine z_istore_n dX12_digits_22 rfl (by decide) rfl ?_
    refine z_iconst dX12_digits_23 cI_0 ?_
    refine z_istore_n dX12_digits_24 rfl (by decide) rfl ?_
    obtain ⟨e12, hl18, h⟩ := zb1_elim h
    obtain ⟨nf19, hl18⟩ := lp_some hl18
    refine z_mask [true, true, true, true] rfl (tX12_digits_l25 T k0 x1 u4 h0 nf19 (0, S) e12 hl18 (fun e_ q => ?_))
    · cases q
      refine z_aload_n dX12_digits_72 rfl ?_
      refine z_gI (zF.x zfX12_190) h0.1 dX12_digits_73 ?_
      refine z_iload_n dX12_digits_76 rfl ?_
      refine z_isub dX12_digits_77 rfl ?_
      refine z_iconst dX12_digits_78 cI_5 ?_
      refine z_icmp_gt (tgt := 87) dX12_digits_79 (by decide) (fun q13 => ?_) (fun q13 => ?_)
      · rw [if_pos q13] at h
        exact z_mask [true, false, true, true] rfl (tX12_digits_b87 T k0 u4 e12.1 e12.2 h0 r h)
      · rw [if_neg q13] at h
        refine z_iload_n dX12_digits_82 rfl ?_
        refine z_iload_n dX12_digits_83 rfl ?_
        refine z_icmp_le (tgt := 93) dX12_digits_84 (by decide) (fun q17 => ?_) (fun q17 => ?_)
        · rw [if_pos q17] at h
          exact z_mask [false, false, false, true] rfl (tX12_digits_b93 T e12.1 e12.2  r h)
        · rw [if_neg q17] at h
          exact z_mask [true, false, true, true] rfl (tX12_digits_b87 T k0 u4 e12.1 e12.2 h0 r h)
  · rw [if_pos q3] at h
    refine z_aload_n dX12_digits_7 rfl ?_
    refine z_iconst dX12_digits_8 cI_0 ?_
    refine z_aload_n dX12_digits_9 rfl ?_
    refine z_gI (zF.x zfX12_190) h0.1 dX12_digits_10 ?_
    obtain ⟨r20, S22, hc21, h⟩ := zb_elim h
    refine z_callV (As := [.int 0, .int (S.1 k0 2)]) zcX12 zkX12_226 ziX12_fails zqX12_fails h0.1 (tX12_fails T k0 0 (S.1 k0 2) S h0 (r20, S22) hc21) rfl rfl (Nat.le_of_ble_eq_true rfl) (by decide) ⟨Nat.le_refl _, Nat.le_refl _⟩ ⟨Nat.le_refl _, Nat.le_refl _⟩ dX12_digits_13 ?_
    refine z_iconst dX12_digits_16 cI_0 ?_
    cases h
    exact z_iret rfl dX12_digits_17
/-! X12_letter -/
noncomputable def fX12_letter_b86 (T : zT) (s0 : Int32) (S : zS) : Option (Int32 × zS) :=
  some (s0, S)
noncomputable def fX12_letter_b85 (T : zT)  (S : zS) : Option (Int32 × zS) :=
  fX12_letter_b86 T (-1) S
noncomputable def fX12_letter_b59 (T : zT) (x1 : Int32) (s0 : Int32) (S : zS) : Option (Int32 × zS) :=
  zb1 (fX12_in T ((x1 : Int32).toInt64) 97 104 S) fun r7 => if r7 = 0 then fX12_letter_b85 T  S else if s0 = 0 then fX12_letter_b86 T (x1 - 97) S else fX12_letter_b85 T  S
noncomputable def fX12_letter_b58 (T : zT) (x1 : Int32) (S : zS) : Option (Int32 × zS) :=
  fX12_letter_b59 T x1 0 S
noncomputable def fX12_letter (T : zT) (k0 : Nat) (S : zS) : Option (Int32 × zS) :=
  zb (fX12_blanks T k0 S) fun _ S3 => zb1 (fX12_sign T k0 S3) fun r4 => if (S3.1 k0 1) ≤ ((S3.1 k0 2) + 1) then fX12_letter_b58 T r4 S3 else zgd (zin ((S3.1 k0 2) + 1) 400) (if (S3.1 (zr T k0 11) (((S3.1 k0 2) + 1) : Int32).toNatClampNeg) < 97 then fX12_letter_b58 T r4 S3 else zgd (zin ((S3.1 k0 2) + 1) 400) (if 122 < (S3.1 (zr T k0 11) (((S3.1 k0 2) + 1) : Int32).toNatClampNeg) then fX12_letter_b58 T r4 S3 else fX12_letter_b59 T r4 1 S3))
set_option maxHeartbeats 4000000 in
set_option maxRecDepth 100000 in
theorem tX12_letter_b86 (T : zT) (s0 : Int32) (S : zS)  {g : zG} (r : (Int32 × zS)) (h : fX12_letter_b86 T s0 S = some r)  : zg g 2 mX12_letter T 86 [none, none, none] [.int s0] T S (some (.int r.1)) T r.2 := by
  unfold fX12_letter_b86 at h
  cases h
  exact z_iret rfl dX12_letter_86
set_option maxHeartbeats 4000000 in
set_option maxRecDepth 100000 in
theorem tX12_letter_b85 (T : zT)  (S : zS)  {g : zG} (r : (Int32 × zS)) (h : fX12_letter_b85 T  S = some r)  : zg g 2 mX12_letter T 85 [none, none, none] [] T S (some (.int r.1)) T r.2 := by
  unfold fX12_letter_b85 at h
  refine z_iconst dX12_letter_85 cI_m1 ?_
  exact z_mask [false, false, false] rfl (tX12_letter_b86 T (-1) S  r h)
set_option maxHeartbeats 4000000 in
set_option maxRecDepth 100000 in
theorem tX12_letter_b59 (T : zT) (x1 : Int32) (s0 : Int32) (S : zS)  {g : zG} (r : (Int32 × zS)) (h : fX12_letter_b59 T x1 s0 S = some r)  : zg g 2 mX12_letter T 59 [none, some (.int x1), none] [.int s0] T S (some (.int r.1)) T r.2 := by
  unfold fX12_letter_b59 at h
  refine z_istore_n dX12_letter_59 rfl (by decide) rfl ?_
  refine z_iload_n dX12_letter_60 rfl ?_
  refine z_i2l dX12_letter_61 rfl ?_
  refine z_ldc2 znX12_287 dX12_letter_62 ?_
  refine z_ldc2 znX12_289 dX12_letter_65 ?_
  obtain ⟨r7, hc8, h⟩ := zb1_elim h
  refine z_callS (As := [.long ((x1 : Int32).toInt64), .long 97, .long 104]) zkX12_201 zsX12_in (tX12_in T ((x1 : Int32).toInt64) 97 104 S  r7 hc8) rfl rfl (Nat.le_of_ble_eq_true rfl) (by decide) ⟨Nat.le_refl _, Nat.le_refl _⟩ ⟨Nat.le_refl _, Nat.le_refl _⟩ dX12_letter_68 ?_
  refine z_if_eq (tgt := 85) dX12_letter_71 (by decide) (fun q9 => ?_) (fun q9 => ?_)
  · rw [if_pos q9] at h
    exact z_mask [false, false, false] rfl (tX12_letter_b85 T  S  r h)
  · rw [if_neg q9] at h
    refine z_iload_n dX12_letter_74 rfl ?_
    refine z_if_ne (tgt := 85) dX12_letter_75 (by decide) (fun q10 => ?_) (fun q10 => ?_)
    · rw [if_neg q10] at h
      exact z_mask [false, false, false] rfl (tX12_letter_b85 T  S  r h)
    · rw [if_pos q10] at h
      refine z_iload_n dX12_letter_78 rfl ?_
      refine z_bipush dX12_letter_79 cB_97 ?_
      refine z_isub dX12_letter_81 rfl ?_
      refine z_goto (tgt := 86) dX12_letter_82 (by decide) ?_
      exact z_mask [false, false, false] rfl (tX12_letter_b86 T (x1 - 97) S  r h)
set_option maxHeartbeats 4000000 in
set_option maxRecDepth 100000 in
theorem tX12_letter_b58 (T : zT) (x1 : Int32) (S : zS)  {g : zG} (r : (Int32 × zS)) (h : fX12_letter_b58 T x1 S = some r)  : zg g 2 mX12_letter T 58 [none, some (.int x1), none] [] T S (some (.int r.1)) T r.2 := by
  unfold fX12_letter_b58 at h
  refine z_iconst dX12_letter_58 cI_0 ?_
  exact z_mask [false, true, false] rfl (tX12_letter_b59 T x1 0 S  r h)
set_option maxHeartbeats 4000000 in
set_option maxRecDepth 100000 in
theorem tX12_letter (T : zT) (k0 : Nat) (S : zS) (h0 : iX12 T k0) (r : Int32 × zS) (h : fX12_letter T k0 S = some r) : zGM 2 mX12_letter [.ref k0] T S (some (.int r.1)) T r.2 := by
  refine zGM_of zpnX12 rfl (Nat.le_of_ble_eq_true rfl) (fun g => ?_)
  show zg g 2 mX12_letter T 0 [some (.ref k0), none, none] [] T S (some (.int r.1)) T r.2
  unfold fX12_letter at h
  refine z_aload_n dX12_letter_0 rfl ?_
  obtain ⟨r1, S3, hc2, h⟩ := zb_elim h
  refine z_callV (As := []) zcX12 zkX12_213 ziX12_blanks zqX12_blanks h0.1 (tX12_blanks T k0 S h0 (r1, S3) hc2) rfl rfl (Nat.le_of_ble_eq_true rfl) (by decide) ⟨Nat.le_refl _, Nat.le_refl _⟩ ⟨Nat.le_refl _, Nat.le_refl _⟩ dX12_letter_1 ?_
  refine z_aload_n dX12_letter_4 rfl ?_
  obtain ⟨r4, hc5, h⟩ := zb1_elim h
  refine z_callV (As := []) zcX12 zkX12_193 ziX12_sign zqX12_sign h0.1 (tX12_sign T k0 S3 h0 r4 hc5) rfl rfl (Nat.le_of_ble_eq_true rfl) (by decide) ⟨Nat.le_refl _, Nat.le_refl _⟩ ⟨Nat.le_refl _, Nat.le_refl _⟩ dX12_letter_5 ?_
  refine z_istore_n dX12_letter_8 rfl (by decide) rfl ?_
  refine z_aload_n dX12_letter_9 rfl ?_
  refine z_gI (zF.x zfX12_190) h0.1 dX12_letter_10 ?_
  refine z_iconst dX12_letter_13 cI_1 ?_
  refine z_iadd dX12_letter_14 rfl ?_
  refine z_aload_n dX12_letter_15 rfl ?_
  refine z_gI (zF.x zfX12_147) h0.1 dX12_letter_16 ?_
  refine z_icmp_ge (tgt := 58) dX12_letter_19 (by decide) (fun q6 => ?_) (fun q6 => ?_)
  · rw [if_pos q6] at h
    exact z_mask [false, true, false] rfl (tX12_letter_b58 T r4 S3  r h)
  · rw [if_neg q6] at h
    refine z_aload_n dX12_letter_22 rfl ?_
    refine z_gA (zF.x zfX12_9) h0.1 dX12_letter_23 ?_
    refine z_aload_n dX12_letter_26 rfl ?_
    refine z_gI (zF.x zfX12_190) h0.1 dX12_letter_27 ?_
    refine z_iconst dX12_letter_30 cI_1 ?_
    refine z_iadd dX12_letter_31 rfl ?_
    obtain ⟨q11, h⟩ := zgd_elim h
    refine z_bald h0.2.1 (zin_ok q11) dX12_letter_32 ?_
    refine z_bipush dX12_letter_33 cB_97 ?_
    refine z_icmp_lt (tgt := 58) dX12_letter_35 (by decide) (fun q12 => ?_) (fun q12 => ?_)
    · rw [if_pos q12] at h
      exact z_mask [false, true, false] rfl (tX12_letter_b58 T r4 S3  r h)
    · rw [if_neg q12] at h
      refine z_aload_n dX12_letter_38 rfl ?_
      refine z_gA (zF.x zfX12_9) h0.1 dX12_letter_39 ?_
      refine z_aload_n dX12_letter_42 rfl ?_
      refine z_gI (zF.x zfX12_190) h0.1 dX12_letter_43 ?_
      refine z_iconst dX12_letter_46 cI_1 ?_
      refine z_iadd dX12_letter_47 rfl ?_
      obtain ⟨q13, h⟩ := zgd_elim h
      refine z_bald h0.2.1 (zin_ok q13) dX12_letter_48 ?_
      refine z_bipush dX12_letter_49 cB_122 ?_
      refine z_icmp_gt (tgt := 58) dX12_letter_51 (by decide) (fun q14 => ?_) (fun q14 => ?_)
      · rw [if_pos q14] at h
        exact z_mask [false, true, false] rfl (tX12_letter_b58 T r4 S3  r h)
      · rw [if_neg q14] at h
        refine z_iconst dX12_letter_54 cI_1 ?_
        refine z_goto (tgt := 59) dX12_letter_55 (by decide) ?_
        exact z_mask [false, true, false] rfl (tX12_letter_b59 T r4 1 S3  r h)
/-! X12_answer -/
noncomputable def fX12_answer_b147 (T : zT) (k0 : Nat) (x1 : Int32) (x3 : Int32) (x4 : Int32) (x5 : Int32) (S : zS) : Option ((Int32 × Int32 × zS) ⊕ zS) :=
  zlet (x5 + 1) fun u12 => some (.inl (x4, u12, S))
noncomputable def fX12_answer_b77 (T : zT) (k0 : Nat) (x1 : Int32) (x3 : Int32) (x4 : Int32) (x5 : Int32) (s0 : Int64) (s1 : Int32) (s2 : Nat) (m2 : Nat) (S : zS) : Option ((Int32 × Int32 × zS) ⊕ zS) :=
  zgd (zin s1 m2) (zlet (zJ S s2 (s1 : Int32).toNatClampNeg s0) fun S10 => zlet (x4 + 1) fun u11 => fX12_answer_b147 T k0 x1 x3 u11 x5 S10)
noncomputable def fX12_answer_b53 (T : zT) (k0 : Nat) (x1 : Int32) (x3 : Int32) (x4 : Int32) (x5 : Int32) (x6 : Int32) (x7 : Int32) (S : zS) : Option ((Int32 × Int32 × zS) ⊕ zS) :=
  if x6 = 0 then fX12_answer_b77 T k0 x1 x3 x4 x5 ((x7 : Int32).toInt64) x4 (zr T k0 35) 300 S else zgd (zin x7 9) (fX12_answer_b77 T k0 x1 x3 x4 x5 (S.2 (zr T k0 34) (x7 : Int32).toNatClampNeg) x4 (zr T k0 35) 300 S)
noncomputable def fX12_answer_l6 (T : zT) (k0 : Nat) (x1 : Int32) (x3 : Int32) (x4 : Int32) (x5 : Int32) (S : zS) : Option ((Int32 × Int32 × zS) ⊕ zS) :=
  if x3 ≤ x5 then some (.inr S) else zgd (zin ((300 * x1) + x5) 2400) (zlet (S.1 (zr T k0 12) (((300 * x1) + x5) : Int32).toNatClampNeg) fun u3 => zgd (zin ((300 * x1) + x5) 2400) (zlet (S.1 (zr T k0 13) (((300 * x1) + x5) : Int32).toNatClampNeg) fun u5 => if u3 = 0 then fX12_answer_b53 T k0 x1 x3 x4 x5 u3 u5 S else if u3 = 1 then fX12_answer_b53 T k0 x1 x3 x4 x5 u3 u5 S else if u3 = 9 then zgd (zin (x4 - 1) 300) (zgd (zin (x4 - 1) 300) (zlet (zJ S (zr T k0 35) ((x4 - 1) : Int32).toNatClampNeg (1 - (S.2 (zr T k0 35) ((x4 - 1) : Int32).toNatClampNeg))) fun S24 => fX12_answer_b147 T k0 x1 x3 x4 x5 S24)) else zlet (x4 + (-1)) fun u15 => zgd (zin (u15 - 1) 300) (zgd (zin u15 300) (zb1 (fX12_both T u3 (S.2 (zr T k0 35) ((u15 - 1) : Int32).toNatClampNeg) (S.2 (zr T k0 35) (u15 : Int32).toNatClampNeg) S) fun r18 => zgd (zin (u15 - 1) 300) (zlet (zJ S (zr T k0 35) ((u15 - 1) : Int32).toNatClampNeg r18) fun S21 => fX12_answer_b147 T k0 x1 x3 u15 x5 S21)))))
noncomputable def fX12_answer (T : zT) (k0 : Nat) (x1 : Int32) (x2 : Int32) (x3 : Int32) (S : zS) : Option (Int64 × zS) :=
  zb1 (lp (fun a => fX12_answer_l6 T k0 x1 x3 a.1 a.2.1 a.2.2) (0, x2, S)) fun e25 => zgd (zin 0 300) (some ((e25.2 (zr T k0 35) (0 : Int32).toNatClampNeg), e25))
set_option maxHeartbeats 4000000 in
set_option maxRecDepth 100000 in
theorem tX12_answer_b147 (T : zT) (k0 : Nat) (x1 : Int32) (x3 : Int32) (x4 : Int32) (x5 : Int32) (S : zS) (h0 : iX12 T k0) {g : zG} {v : Option Value} {S' : zS} (r : ((Int32 × Int32 × zS) ⊕ zS)) (h : fX12_answer_b147 T k0 x1 x3 x4 x5 S = some r) (K1 : ∀ a : (Int32 × Int32 × zS), r = .inl a → zg g 2 mX12_answer T 6 [some (.ref k0), some (.int x1), none, some (.int x3), some (.int a.1), some (.int a.2.1), none, none] [] T a.2.2 v T S') (K2_0 : ∀ e : zS, r = .inr e → zg g 2 mX12_answer T 153 [some (.ref k0), none, none, none, none, none, none, none] [] T e v T S') : zg g 2 mX12_answer T 147 [some (.ref k0), some (.int x1), none, some (.int x3), some (.int x4), some (.int x5), none, none] [] T S v T S' := by
  unfold fX12_answer_b147 at h
  obtain ⟨u12, eu12, h⟩ := zlet_elim h
  refine z_iinc (r := u12) dX12_answer_147 rfl (by rw [eu12, cI_1]) rfl (by decide) rfl ?_
  refine z_goto (tgt := 6) dX12_answer_150 (by decide) ?_
  cases h
  exact z_mask [true, true, false, true, true, true, false, false] rfl (K1 _ rfl)
set_option maxHeartbeats 4000000 in
set_option maxRecDepth 100000 in
theorem tX12_answer_b77 (T : zT) (k0 : Nat) (x1 : Int32) (x3 : Int32) (x4 : Int32) (x5 : Int32) (s0 : Int64) (s1 : Int32) (s2 : Nat) (m2 : Nat) (S : zS) (h0 : iX12 T k0) (g2 : zL T s2 21 m2) {g : zG} {v : Option Value} {S' : zS} (r : ((Int32 × Int32 × zS) ⊕ zS)) (h : fX12_answer_b77 T k0 x1 x3 x4 x5 s0 s1 s2 m2 S = some r) (K1 : ∀ a : (Int32 × Int32 × zS), r = .inl a → zg g 2 mX12_answer T 6 [some (.ref k0), some (.int x1), none, some (.int x3), some (.int a.1), some (.int a.2.1), none, none] [] T a.2.2 v T S') (K2_0 : ∀ e : zS, r = .inr e → zg g 2 mX12_answer T 153 [some (.ref k0), none, none, none, none, none, none, none] [] T e v T S') : zg g 2 mX12_answer T 77 [some (.ref k0), some (.int x1), none, some (.int x3), some (.int x4), some (.int x5), none, none] [.long s0, .int s1, .ref s2] T S v T S' := by
  unfold fX12_answer_b77 at h
  obtain ⟨q9, h⟩ := zgd_elim h
  refine z_last g2 (zin_ok q9) dX12_answer_77 ?_
  obtain ⟨S10, eS10, h⟩ := zlet_elim h
  refine z_tS eS10 ?_
  obtain ⟨u11, eu11, h⟩ := zlet_elim h
  refine z_iinc (r := u11) dX12_answer_78 rfl (by rw [eu11, cI_1]) rfl (by decide) rfl ?_
  refine z_goto (tgt := 147) dX12_answer_81 (by decide) ?_
  exact z_mask [true, true, false, true, true, true, false, false] rfl (tX12_answer_b147 T k0 x1 x3 u11 x5 S10 h0 r h K1 K2_0)
set_option maxHeartbeats 4000000 in
set_option maxRecDepth 100000 in
theorem tX12_answer_b53 (T : zT) (k0 : Nat) (x1 : Int32) (x3 : Int32) (x4 : Int32) (x5 : Int32) (x6 : Int32) (x7 : Int32) (S : zS) (h0 : iX12 T k0) {g : zG} {v : Option Value} {S' : zS} (r : ((Int32 × Int32 × zS) ⊕ zS)) (h : fX12_answer_b53 T k0 x1 x3 x4 x5 x6 x7 S = some r) (K1 : ∀ a : (Int32 × Int32 × zS), r = .inl a → zg g 2 mX12_answer T 6 [some (.ref k0), some (.int x1), none, some (.int x3), some (.int a.1), some (.int a.2.1), none, none] [] T a.2.2 v T S') (K2_0 : ∀ e : zS, r = .inr e → zg g 2 mX12_answer T 153 [some (.ref k0), none, none, none, none, none, none, none] [] T e v T S') : zg g 2 mX12_answer T 53 [some (.ref k0), some (.int x1), none, some (.int x3), some (.int x4), some (.int x5), some (.int x6), some (.int x7)] [] T S v T S' := by
  unfold fX12_answer_b53 at h
  refine z_aload_n dX12_answer_53 rfl ?_
  refine z_gA (zF.x zfX12_84) h0.1 dX12_answer_54 ?_
  refine z_iload dX12_answer_57 rfl ?_
  refine z_iload dX12_answer_59 rfl ?_
  refine z_if_ne (tgt := 70) dX12_answer_61 (by decide) (fun q7 => ?_) (fun q7 => ?_)
  · rw [if_neg q7] at h
    refine z_aload_n dX12_answer_70 rfl ?_
    refine z_gA (zF.x zfX12_80) h0.1 dX12_answer_71 ?_
    refine z_iload dX12_answer_74 rfl ?_
    obtain ⟨q8, h⟩ := zgd_elim h
    refine z_lald h0.2.2.2.2.2.2.2.2.2.2.2.2.2.2.2.2.2.2.2.2.2.2.2.2.1 (zin_ok q8) dX12_answer_76 ?_
    exact z_mask [true, true, false, true, true, true, false, false] rfl (tX12_answer_b77 T k0 x1 x3 x4 x5 (S.2 (zr T k0 34) (x7 : Int32).toNatClampNeg) x4 (zr T k0 35) 300 S h0 h0.2.2.2.2.2.2.2.2.2.2.2.2.2.2.2.2.2.2.2.2.2.2.2.2.2.1 r h K1 K2_0)
  · rw [if_pos q7] at h
    refine z_iload dX12_answer_64 rfl ?_
    refine z_i2l dX12_answer_66 rfl ?_
    refine z_goto (tgt := 77) dX12_answer_67 (by decide) ?_
    exact z_mask [true, true, false, true, true, true, false, false] rfl (tX12_answer_b77 T k0 x1 x3 x4 x5 ((x7 : Int32).toInt64) x4 (zr T k0 35) 300 S h0 h0.2.2.2.2.2.2.2.2.2.2.2.2.2.2.2.2.2.2.2.2.2.2.2.2.2.1 r h K1 K2_0)
set_option maxHeartbeats 4000000 in
set_option maxRecDepth 100000 in
theorem tX12_answer_l6b (T : zT) (k0 : Nat) (x1 : Int32) (x3 : Int32) (x4 : Int32) (x5 : Int32) (S : zS) (h0 : iX12 T k0) {g : zG} {v : Option Value} {S' : zS} (r : (Int32 × Int32 × zS) ⊕ zS) (h : fX12_answer_l6 T k0 x1 x3 x4 x5 S = some r) (K1 : ∀ a : (Int32 × Int32 × zS), r = .inl a → zg g 2 mX12_answer T 6 [some (.ref k0), some (.int x1), none, some (.int x3), some (.int a.1), some (.int a.2.1), none, none] [] T a.2.2 v T S') (K2_0 : ∀ e : zS, r = .inr e → zg g 2 mX12_answer T 153 [some (.ref k0), none, none, none, none, none, none, none] [] T e v T S') : zg g 2 mX12_answer T 6 [some (.ref k0), some (.int x1), none, some (.int x3), some (.int x4), some (.int x5), none, none] [] T S v T S' := by
  unfold fX12_answer_l6 at h
  refine z_iload dX12_answer_6 rfl ?_
  refine z_iload_n dX12_answer_8 rfl ?_
  refine z_icmp_ge (tgt := 153) dX12_answer_9 (by decide) (fun q1 => ?_) (fun q1 => ?_)
  · rw [if_pos q1] at h
    cases h
    exact z_mask [true, false, false, false, false, false, false, false] rfl (K2_0 _ rfl)
  · rw [if_neg q1] at h
    refine z_aload_n dX12_answer_12 rfl ?_
    refine z_gA (zF.x zfX12_13) h0.1 dX12_answer_13 ?_
    refine z_sipush dX12_answer_16 cS_300 ?_
    refine z_iload_n dX12_answer_19 rfl ?_
    refine z_imul dX12_answer_20 rfl ?_
    refine z_iload dX12_answer_21 rfl ?_
    refine z_iadd dX12_answer_23 rfl ?_
    obtain ⟨q2, h⟩ := zgd_elim h
    refine z_iald h0.2.2.1 (zin_ok q2) dX12_answer_24 ?_
    obtain ⟨u3, eu3, h⟩ := zlet_elim h
    refine z_ti eu3 ?_
    refine z_istore dX12_answer_25 rfl (by decide) rfl ?_
    refine z_aload_n dX12_answer_27 rfl ?_
    refine z_gA (zF.x zfX12_17) h0.1 dX12_answer_28 ?_
    refine z_sipush dX12_answer_31 cS_300 ?_
    refine z_iload_n dX12_answer_34 rfl ?_
    refine z_imul dX12_answer_35 rfl ?_
    refine z_iload dX12_answer_36 rfl ?_
    refine z_iadd dX12_answer_38 rfl ?_
    obtain ⟨q4, h⟩ := zgd_elim h
    refine z_iald h0.2.2.2.1 (zin_ok q4) dX12_answer_39 ?_
    obtain ⟨u5, eu5, h⟩ := zlet_elim h
    refine z_ti eu5 ?_
    refine z_istore dX12_answer_40 rfl (by decide) rfl ?_
    refine z_iload dX12_answer_42 rfl ?_
    refine z_if_eq (tgt := 53) dX12_answer_44 (by decide) (fun q6 => ?_) (fun q6 => ?_)
    · rw [if_pos q6] at h
      exact z_mask [true, true, false, true, true, true, true, true] rfl (tX12_answer_b53 T k0 x1 x3 x4 x5 u3 u5 S h0 r h K1 K2_0)
    · rw [if_neg q6] at h
      refine z_iload dX12_answer_47 rfl ?_
      refine z_iconst dX12_answer_49 cI_1 ?_
      refine z_icmp_ne (tgt := 84) dX12_answer_50 (by decide) (fun q13 => ?_) (fun q13 => ?_)
      · rw [if_neg q13] at h
        refine z_iload dX12_answer_84 rfl ?_
        refine z_bipush dX12_answer_86 cB_9 ?_
        refine z_icmp_ne (tgt := 114) dX12_answer_88 (by decide) (fun q14 => ?_) (fun q14 => ?_)
        · rw [if_neg q14] at h
          obtain ⟨u15, eu15, h⟩ := zlet_elim h
          refine z_iinc (r := u15) dX12_answer_114 rfl (by rw [eu15, cI_m1]) rfl (by decide) rfl ?_
          refine z_aload_n dX12_answer_117 rfl ?_
          refine z_gA (zF.x zfX12_84) h0.1 dX12_answer_118 ?_
          refine z_iload dX12_answer_121 rfl ?_
          refine z_iconst dX12_answer_123 cI_1 ?_
          refine z_isub dX12_answer_124 rfl ?_
          refine z_iload dX12_answer_125 rfl ?_
          refine z_aload_n dX12_answer_127 rfl ?_
          refine z_gA (zF.x zfX12_84) h0.1 dX12_answer_128 ?_
          refine z_iload dX12_answer_131 rfl ?_
          refine z_iconst dX12_answer_133 cI_1 ?_
          refine z_isub dX12_answer_134 rfl ?_
          obtain ⟨q16, h⟩ := zgd_elim h
          refine z_lald h0.2.2.2.2.2.2.2.2.2.2.2.2.2.2.2.2.2.2.2.2.2.2.2.2.2.1 (zin_ok q16) dX12_answer_135 ?_
          refine z_aload_n dX12_answer_136 rfl ?_
          refine z_gA (zF.x zfX12_84) h0.1 dX12_answer_137 ?_
          refine z_iload dX12_answer_140 rfl ?_
          obtain ⟨q17, h⟩ := zgd_elim h
          refine z_lald h0.2.2.2.2.2.2.2.2.2.2.2.2.2.2.2.2.2.2.2.2.2.2.2.2.2.1 (zin_ok q17) dX12_answer_142 ?_
          obtain ⟨r18, hc19, h⟩ := zb1_elim h
          refine z_callS (As := [.int u3, .long (S.2 (zr T k0 35) ((u15 - 1) : Int32).toNatClampNeg), .long (S.2 (zr T k0 35) (u15 : Int32).toNatClampNeg)]) zkX12_367 zsX12_both (tX12_both T u3 (S.2 (zr T k0 35) ((u15 - 1) : Int32).toNatClampNeg) (S.2 (zr T k0 35) (u15 : Int32).toNatClampNeg) S  r18 hc19) rfl rfl (Nat.le_of_ble_eq_true rfl) (by decide) ⟨Nat.le_refl _, Nat.le_refl _⟩ ⟨Nat.le_refl _, Nat.le_refl _⟩ dX12_answer_143 ?_
          obtain ⟨q20, h⟩ := zgd_elim h
          refine z_last h0.2.2.2.2.2.2.2.2.2.2.2.2.2.2.2.2.2.2.2.2.2.2.2.2.2.1 (zin_ok q20) dX12_answer_146 ?_
          obtain ⟨S21, eS21, h⟩ := zlet_elim h
          refine z_tS eS21 ?_
          exact z_mask [true, true, false, true, true, true, false, false] rfl (tX12_answer_b147 T k0 x1 x3 u15 x5 S21 h0 r h K1 K2_0)
        · rw [if_pos q14] at h
          refine z_aload_n dX12_answer_91 rfl ?_
          refine z_gA (zF.x zfX12_84) h0.1 dX12_answer_92 ?_
          refine z_iload dX12_answer_95 rfl ?_
          refine z_iconst dX12_answer_97 cI_1 ?_
          refine z_isub dX12_answer_98 rfl ?_
          refine z_lconst (r := 1) dX12_answer_99 rfl ?_
          refine z_aload_n dX12_answer_100 rfl ?_
          refine z_gA (zF.x zfX12_84) h0.1 dX12_answer_101 ?_
          refine z_iload dX12_answer_104 rfl ?_
          refine z_iconst dX12_answer_106 cI_1 ?_
          refine z_isub dX12_answer_107 rfl ?_
          obtain ⟨q22, h⟩ := zgd_elim h
          refine z_lald h0.2.2.2.2.2.2.2.2.2.2.2.2.2.2.2.2.2.2.2.2.2.2.2.2.2.1 (zin_ok q22) dX12_answer_108 ?_
          refine z_lsub dX12_answer_109 rfl ?_
          obtain ⟨q23, h⟩ := zgd_elim h
          refine z_last h0.2.2.2.2.2.2.2.2.2.2.2.2.2.2.2.2.2.2.2.2.2.2.2.2.2.1 (zin_ok q23) dX12_answer_110 ?_
          obtain ⟨S24, eS24, h⟩ := zlet_elim h
          refine z_tS eS24 ?_
          refine z_goto (tgt := 147) dX12_answer_111 (by decide) ?_
          exact z_mask [true, true, false, true, true, true, false, false] rfl (tX12_answer_b147 T k0 x1 x3 x4 x5 S24 h0 r h K1 K2_0)
      · rw [if_pos q13] at h
        exact z_mask [true, true, false, true, true, true, true, true] rfl (tX12_answer_b53 T k0 x1 x3 x4 x5 u3 u5 S h0 r h K1 K2_0)
set_option maxHeartbeats 4000000 in
set_option maxRecDepth 100000 in
theorem tX12_answer_l6 (T : zT) (k0 : Nat) (x1 : Int32) (x3 : Int32) (h0 : iX12 T k0) {g : zG} {v : Option Value} {S' : zS} : ∀ (n : Nat) (a : (Int32 × Int32 × zS)) (e : zS), lpn (fun a => fX12_answer_l6 T k0 x1 x3 a.1 a.2.1 a.2.2) n a = some e → (∀ e1 : zS, e = e1 → zg g 2 mX12_answer T 153 [some (.ref k0), none, none, none, none, none, none, none] [] T e1 v T S') → zg g 2 mX12_answer T 6 [some (.ref k0), some (.int x1), none, some (.int x3), some (.int a.1), some (.int a.2.1), none, none] [] T a.2.2 v T S' := by
  intro n
  induction n with
  | zero =>
    intro a e h
    cases h
  | succ n ih =>
    intro a e h k0_
    rcases lpn_succ h with ⟨a1, ha_, hb_⟩ | ha_
    · exact tX12_answer_l6b T k0 x1 x3 a.1 a.2.1 a.2.2 h0 _ ha_ (fun a2 q => by cases q; exact ih a1 e hb_ k0_) (fun e1 q => by cases q)
    · exact tX12_answer_l6b T k0 x1 x3 a.1 a.2.1 a.2.2 h0 _ ha_ (fun a2 q => by cases q) (fun e1 q => by cases q; exact k0_ _ rfl)
set_option maxHeartbeats 4000000 in
set_option maxRecDepth 100000 in
theorem tX12_answer (T : zT) (k0 : Nat) (x1 : Int32) (x2 : Int32) (x3 : Int32) (S : zS) (h0 : iX12 T k0) (r : Int64 × zS) (h : fX12_answer T k0 x1 x2 x3 S = some r) : zGM 2 mX12_answer [.ref k0, .int x1, .int x2, .int x3] T S (some (.long r.1)) T r.2 := by
  refine zGM_of zpnX12 rfl (Nat.le_of_ble_eq_true rfl) (fun g => ?_)
  show zg g 2 mX12_answer T 0 [some (.ref k0), some (.int x1), some (.int x2), some (.int x3), none, none, none, none] [] T S (some (.long r.1)) T r.2
  unfold fX12_answer at h
  refine z_iconst dX12_answer_0 cI_0 ?_
  refine z_istore dX12_answer_1 rfl (by decide) rfl ?_
  refine z_iload_n dX12_answer_3 rfl ?_
  refine z_istore dX12_answer_4 rfl (by decide) rfl ?_
  obtain ⟨e25, hl27, h⟩ := zb1_elim h
  obtain ⟨nf28, hl27⟩ := lp_some hl27
  refine z_mask [true, true, false, true, true, true, false, false] rfl (tX12_answer_l6 T k0 x1 x3 h0 nf28 (0, x2, S) e25 hl27 (fun e_ q => ?_))
  · cases q
    refine z_aload_n dX12_answer_153 rfl ?_
    refine z_gA (zF.x zfX12_84) h0.1 dX12_answer_154 ?_
    refine z_iconst dX12_answer_157 cI_0 ?_
    obtain ⟨q26, h⟩ := zgd_elim h
    refine z_lald h0.2.2.2.2.2.2.2.2.2.2.2.2.2.2.2.2.2.2.2.2.2.2.2.2.2.1 (zin_ok q26) dX12_answer_158 ?_
    cases h
    exact z_lret rfl dX12_answer_159
/-! X12_thing -/
noncomputable def fX12_thing (T : zT) (k0 : Nat) (x1 : Int32) (x2 : Int32) (S : zS) : Option Int32 :=
  zb1 (fX12_has T k0 x1 S) fun r1 => if r1 = 0 then some (-2) else if x2 = 0 then zgd (zin x1 16) (some (S.1 (zr T k0 23) (x1 : Int32).toNatClampNeg)) else if x2 = 1 then zgd (zin x1 16) (some (S.1 (zr T k0 24) (x1 : Int32).toNatClampNeg)) else if x2 = 2 then zgd (zin x1 16) (some (S.1 (zr T k0 25) (x1 : Int32).toNatClampNeg)) else if x2 = 3 then zgd (zin x1 16) (some (S.1 (zr T k0 26) (x1 : Int32).toNatClampNeg)) else if x2 = 4 then zgd (zin x1 16) (some (S.1 (zr T k0 27) (x1 : Int32).toNatClampNeg)) else if x2 = 5 then zgd (zin x1 16) (some (S.1 (zr T k0 28) (x1 : Int32).toNatClampNeg)) else some (-2)
set_option maxHeartbeats 4000000 in
set_option maxRecDepth 100000 in
theorem tX12_thing (T : zT) (k0 : Nat) (x1 : Int32) (x2 : Int32) (S : zS) (h0 : iX12 T k0) (r : Int32) (h : fX12_thing T k0 x1 x2 S = some r) : zGM 2 mX12_thing [.ref k0, .int x1, .int x2] T S (some (.int r)) T S := by
  refine zGM_of zpnX12 rfl (Nat.le_of_ble_eq_true rfl) (fun g => ?_)
  show zg g 2 mX12_thing T 0 [some (.ref k0), some (.int x1), some (.int x2)] [] T S (some (.int r)) T S
  unfold fX12_thing at h
  refine z_aload_n dX12_thing_0 rfl ?_
  refine z_iload_n dX12_thing_1 rfl ?_
  obtain ⟨r1, hc2, h⟩ := zb1_elim h
  refine z_callV (As := [.int x1]) zcX12 zkX12_375 ziX12_has zqX12_has h0.1 (tX12_has T k0 x1 S h0 r1 hc2) rfl rfl (Nat.le_of_ble_eq_true rfl) (by decide) ⟨Nat.le_refl _, Nat.le_refl _⟩ ⟨Nat.le_refl _, Nat.le_refl _⟩ dX12_thing_2 ?_
  refine z_if_ne (tgt := 11) dX12_thing_5 (by decide) (fun q3 => ?_) (fun q3 => ?_)
  · rw [if_neg q3] at h
    refine z_iload_n dX12_thing_11 rfl ?_
    by_cases q4 : x2 = 0
    · rw [if_pos q4] at h
      refine z_tableIn (off := 40) (tgt := 52) dX12_thing_12 (by show ¬ x2.toInt < 0; rw [q4]; decide) (by show ¬ 5 < x2.toInt; rw [q4]; decide) (by rw [q4]; rfl) (by decide) ?_
      refine z_aload_n dX12_thing_52 rfl ?_
      refine z_gA (zF.x zfX12_47) h0.1 dX12_thing_53 ?_
      refine z_iload_n dX12_thing_56 rfl ?_
      obtain ⟨q5, h⟩ := zgd_elim h
      refine z_iald h0.2.2.2.2.2.2.2.2.2.2.2.2.2.1 (zin_ok q5) dX12_thing_57 ?_
      cases h
      exact z_iret rfl dX12_thing_58
    rw [if_neg q4] at h
    by_cases q6 : x2 = 1
    · rw [if_pos q6] at h
      refine z_tableIn (off := 47) (tgt := 59) dX12_thing_12 (by show ¬ x2.toInt < 0; rw [q6]; decide) (by show ¬ 5 < x2.toInt; rw [q6]; decide) (by rw [q6]; rfl) (by decide) ?_
      refine z_aload_n dX12_thing_59 rfl ?_
      refine z_gA (zF.x zfX12_50) h0.1 dX12_thing_60 ?_
      refine z_iload_n dX12_thing_63 rfl ?_
      obtain ⟨q7, h⟩ := zgd_elim h
      refine z_iald h0.2.2.2.2.2.2.2.2.2.2.2.2.2.2.1 (zin_ok q7) dX12_thing_64 ?_
      cases h
      exact z_iret rfl dX12_thing_65
    rw [if_neg q6] at h
    by_cases q8 : x2 = 2
    · rw [if_pos q8] at h
      refine z_tableIn (off := 54) (tgt := 66) dX12_thing_12 (by show ¬ x2.toInt < 0; rw [q8]; decide) (by show ¬ 5 < x2.toInt; rw [q8]; decide) (by rw [q8]; rfl) (by decide) ?_
      refine z_aload_n dX12_thing_66 rfl ?_
      refine z_gA (zF.x zfX12_53) h0.1 dX12_thing_67 ?_
      refine z_iload_n dX12_thing_70 rfl ?_
      obtain ⟨q9, h⟩ := zgd_elim h
      refine z_iald h0.2.2.2.2.2.2.2.2.2.2.2.2.2.2.2.1 (zin_ok q9) dX12_thing_71 ?_
      cases h
      exact z_iret rfl dX12_thing_72
    rw [if_neg q8] at h
    by_cases q10 : x2 = 3
    · rw [if_pos q10] at h
      refine z_tableIn (off := 61) (tgt := 73) dX12_thing_12 (by show ¬ x2.toInt < 0; rw [q10]; decide) (by show ¬ 5 < x2.toInt; rw [q10]; decide) (by rw [q10]; rfl) (by decide) ?_
      refine z_aload_n dX12_thing_73 rfl ?_
      refine z_gA (zF.x zfX12_56) h0.1 dX12_thing_74 ?_
      refine z_iload_n dX12_thing_77 rfl ?_
      obtain ⟨q11, h⟩ := zgd_elim h
      refine z_iald h0.2.2.2.2.2.2.2.2.2.2.2.2.2.2.2.2.1 (zin_ok q11) dX12_thing_78 ?_
      cases h
      exact z_iret rfl dX12_thing_79
    rw [if_neg q10] at h
    by_cases q12 : x2 = 4
    · rw [if_pos q12] at h
      refine z_tableIn (off := 68) (tgt := 80) dX12_thing_12 (by show ¬ x2.toInt < 0; rw [q12]; decide) (by show ¬ 5 < x2.toInt; rw [q12]; decide) (by rw [q12]; rfl) (by decide) ?_
      refine z_aload_n dX12_thing_80 rfl ?_
      refine z_gA (zF.x zfX12_59) h0.1 dX12_thing_81 ?_
      refine z_iload_n dX12_thing_84 rfl ?_
      obtain ⟨q13, h⟩ := zgd_elim h
      refine z_iald h0.2.2.2.2.2.2.2.2.2.2.2.2.2.2.2.2.2.1 (zin_ok q13) dX12_thing_85 ?_
      cases h
      exact z_iret rfl dX12_thing_86
    rw [if_neg q12] at h
    by_cases q14 : x2 = 5
    · rw [if_pos q14] at h
      refine z_tableIn (off := 75) (tgt := 87) dX12_thing_12 (by show ¬ x2.toInt < 0; rw [q14]; decide) (by show ¬ 5 < x2.toInt; rw [q14]; decide) (by rw [q14]; rfl) (by decide) ?_
      refine z_aload_n dX12_thing_87 rfl ?_
      refine z_gA (zF.x zfX12_62) h0.1 dX12_thing_88 ?_
      refine z_iload_n dX12_thing_91 rfl ?_
      obtain ⟨q15, h⟩ := zgd_elim h
      refine z_iald h0.2.2.2.2.2.2.2.2.2.2.2.2.2.2.2.2.2.2.1 (zin_ok q15) dX12_thing_92 ?_
      cases h
      exact z_iret rfl dX12_thing_93
    rw [if_neg q14] at h
    have q4i : ¬ x2.toInt = 0 := zneI q4 (by decide)
    have q6i : ¬ x2.toInt = 1 := zneI q6 (by decide)
    have q8i : ¬ x2.toInt = 2 := zneI q8 (by decide)
    have q10i : ¬ x2.toInt = 3 := zneI q10 (by decide)
    have q12i : ¬ x2.toInt = 4 := zneI q12 (by decide)
    have q14i : ¬ x2.toInt = 5 := zneI q14 (by decide)
    refine z_tableOut (tgt := 94) dX12_thing_12 (by show x2.toInt < 0 ∨ 5 < x2.toInt; omega) (by decide) ?_
    refine z_bipush dX12_thing_94 cB_m2 ?_
    cases h
    exact z_iret rfl dX12_thing_96
  · rw [if_pos q3] at h
    refine z_bipush dX12_thing_8 cB_m2 ?_
    cases h
    exact z_iret rfl dX12_thing_10
/-! X12_owed -/
noncomputable def fX12_owed_b25 (T : zT) (s0 : Int32) (S : zS) : Option Int32 :=
  some s0
noncomputable def fX12_owed_b24 (T : zT)  (S : zS) : Option Int32 :=
  fX12_owed_b25 T (-1) S
noncomputable def fX12_owed (T : zT) (k0 : Nat) (x1 : Int32) (x2 : Int32) (S : zS) : Option Int32 :=
  zb1 (fX12_has T k0 x1 S) fun r1 => if r1 = 0 then fX12_owed_b24 T  S else zb1 (fX12_isWeek T x2 S) fun r4 => if r4 = 0 then fX12_owed_b24 T  S else zb1 (fX12_owedAtFirst T k0 x1 x2 S) fun r7 => fX12_owed_b25 T r7 S
set_option maxHeartbeats 4000000 in
set_option maxRecDepth 100000 in
theorem tX12_owed_b25 (T : zT) (s0 : Int32) (S : zS)  {g : zG} (r : Int32) (h : fX12_owed_b25 T s0 S = some r)  : zg g 2 mX12_owed T 25 [none, none, none] [.int s0] T S (some (.int r)) T S := by
  unfold fX12_owed_b25 at h
  cases h
  exact z_iret rfl dX12_owed_25
set_option maxHeartbeats 4000000 in
set_option maxRecDepth 100000 in
theorem tX12_owed_b24 (T : zT)  (S : zS)  {g : zG} (r : Int32) (h : fX12_owed_b24 T  S = some r)  : zg g 2 mX12_owed T 24 [none, none, none] [] T S (some (.int r)) T S := by
  unfold fX12_owed_b24 at h
  refine z_iconst dX12_owed_24 cI_m1 ?_
  exact z_mask [false, false, false] rfl (tX12_owed_b25 T (-1) S  r h)
set_option maxHeartbeats 4000000 in
set_option maxRecDepth 100000 in
theorem tX12_owed (T : zT) (k0 : Nat) (x1 : Int32) (x2 : Int32) (S : zS) (h0 : iX12 T k0) (r : Int32) (h : fX12_owed T k0 x1 x2 S = some r) : zGM 2 mX12_owed [.ref k0, .int x1, .int x2] T S (some (.int r)) T S := by
  refine zGM_of zpnX12 rfl (Nat.le_of_ble_eq_true rfl) (fun g => ?_)
  show zg g 2 mX12_owed T 0 [some (.ref k0), some (.int x1), some (.int x2)] [] T S (some (.int r)) T S
  unfold fX12_owed at h
  refine z_aload_n dX12_owed_0 rfl ?_
  refine z_iload_n dX12_owed_1 rfl ?_
  obtain ⟨r1, hc2, h⟩ := zb1_elim h
  refine z_callV (As := [.int x1]) zcX12 zkX12_375 ziX12_has zqX12_has h0.1 (tX12_has T k0 x1 S h0 r1 hc2) rfl rfl (Nat.le_of_ble_eq_true rfl) (by decide) ⟨Nat.le_refl _, Nat.le_refl _⟩ ⟨Nat.le_refl _, Nat.le_refl _⟩ dX12_owed_2 ?_
  refine z_if_eq (tgt := 24) dX12_owed_5 (by decide) (fun q3 => ?_) (fun q3 => ?_)
  · rw [if_pos q3] at h
    exact z_mask [false, false, false] rfl (tX12_owed_b24 T  S  r h)
  · rw [if_neg q3] at h
    refine z_iload_n dX12_owed_8 rfl ?_
    obtain ⟨r4, hc5, h⟩ := zb1_elim h
    refine z_callS (As := [.int x2]) zkX12_382 zsX12_isWeek (tX12_isWeek T x2 S  r4 hc5) rfl rfl (Nat.le_of_ble_eq_true rfl) (by decide) ⟨Nat.le_refl _, Nat.le_refl _⟩ ⟨Nat.le_refl _, Nat.le_refl _⟩ dX12_owed_9 ?_
    refine z_if_eq (tgt := 24) dX12_owed_12 (by decide) (fun q6 => ?_) (fun q6 => ?_)
    · rw [if_pos q6] at h
      exact z_mask [false, false, false] rfl (tX12_owed_b24 T  S  r h)
    · rw [if_neg q6] at h
      refine z_aload_n dX12_owed_15 rfl ?_
      refine z_iload_n dX12_owed_16 rfl ?_
      refine z_iload_n dX12_owed_17 rfl ?_
      obtain ⟨r7, hc8, h⟩ := zb1_elim h
      refine z_callV (As := [.int x1, .int x2]) zcX12 zkX12_385 ziX12_owedAtFirst zqX12_owedAtFirst h0.1 (tX12_owedAtFirst T k0 x1 x2 S h0 r7 hc8) rfl rfl (Nat.le_of_ble_eq_true rfl) (by decide) ⟨Nat.le_refl _, Nat.le_refl _⟩ ⟨Nat.le_refl _, Nat.le_refl _⟩ dX12_owed_18 ?_
      refine z_goto (tgt := 25) dX12_owed_21 (by decide) ?_
      exact z_mask [false, false, false] rfl (tX12_owed_b25 T r7 S  r h)
/-! X12_act -/
noncomputable def fX12_act_b70 (T : zT)  (S : zS) : Option (Int32 × zS) :=
  some ((-1), S)
noncomputable def fX12_act_b72 (T : zT) (k0 : Nat) (x1 : Int32) (x2 : Int32) (x3 : Int32) (S : zS) : Option (Int32 × zS) :=
  zgd (zin (S.1 k0 36) 60) (zlet (zI S (zr T k0 37) ((S.1 k0 36) : Int32).toNatClampNeg x1) fun S14 => zgd (zin (S14.1 k0 36) 60) (zlet (zI S14 (zr T k0 38) ((S14.1 k0 36) : Int32).toNatClampNeg x2) fun S16 => zgd (zin (S16.1 k0 36) 60) (zlet (zI S16 (zr T k0 39) ((S16.1 k0 36) : Int32).toNatClampNeg x3) fun S18 => zlet (zI S18 k0 36 ((S18.1 k0 36) + 1)) fun S19 => some ((S19.1 k0 36), S19))))
noncomputable def fX12_act_b38 (T : zT) (k0 : Nat) (x1 : Int32) (x2 : Int32) (x3 : Int32) (S : zS) : Option (Int32 × zS) :=
  zb1 (fX12_in T ((x2 : Int32).toInt64) 0 4 S) fun r6 => if r6 = 0 then fX12_act_b70 T  S else if x2 = 4 then if x3 = 0 then fX12_act_b72 T k0 x1 x2 x3 S else fX12_act_b70 T  S else zb1 (fX12_has T k0 x3 S) fun r10 => if r10 = 0 then fX12_act_b70 T  S else fX12_act_b72 T k0 x1 x2 x3 S
noncomputable def fX12_act (T : zT) (k0 : Nat) (x1 : Int32) (x2 : Int32) (x3 : Int32) (S : zS) : Option (Int32 × zS) :=
  if (S.1 k0 36) = 60 then fX12_act_b70 T  S else zb1 (fX12_isWeek T x1 S) fun r2 => if r2 = 0 then fX12_act_b70 T  S else if (S.1 k0 36) ≤ 0 then fX12_act_b38 T k0 x1 x2 x3 S else zgd (zin ((S.1 k0 36) - 1) 60) (if x1 < (S.1 (zr T k0 37) (((S.1 k0 36) - 1) : Int32).toNatClampNeg) then fX12_act_b70 T  S else fX12_act_b38 T k0 x1 x2 x3 S)
set_option maxHeartbeats 4000000 in
set_option maxRecDepth 100000 in
theorem tX12_act_b70 (T : zT)  (S : zS)  {g : zG} (r : (Int32 × zS)) (h : fX12_act_b70 T  S = some r)  : zg g 2 mX12_act T 70 [none, none, none, none] [] T S (some (.int r.1)) T r.2 := by
  unfold fX12_act_b70 at h
  refine z_iconst dX12_act_70 cI_m1 ?_
  cases h
  exact z_iret rfl dX12_act_71
set_option maxHeartbeats 4000000 in
set_option maxRecDepth 100000 in
theorem tX12_act_b72 (T : zT) (k0 : Nat) (x1 : Int32) (x2 : Int32) (x3 : Int32) (S : zS) (h0 : iX12 T k0) {g : zG} (r : (Int32 × zS)) (h : fX12_act_b72 T k0 x1 x2 x3 S = some r)  : zg g 2 mX12_act T 72 [some (.ref k0), some (.int x1), some (.int x2), some (.int x3)] [] T S (some (.int r.1)) T r.2 := by
  unfold fX12_act_b72 at h
  refine z_aload_n dX12_act_72 rfl ?_
  refine z_gA (zF.x zfX12_87) h0.1 dX12_act_73 ?_
  refine z_aload_n dX12_act_76 rfl ?_
  refine z_gI (zF.x zfX12_351) h0.1 dX12_act_77 ?_
  refine z_iload_n dX12_act_80 rfl ?_
  obtain ⟨q13, h⟩ := zgd_elim h
  refine z_iast h0.2.2.2.2.2.2.2.2.2.2.2.2.2.2.2.2.2.2.2.2.2.2.2.2.2.2.1 (zin_ok q13) dX12_act_81 ?_
  obtain ⟨S14, eS14, h⟩ := zlet_elim h
  refine z_tS eS14 ?_
  refine z_aload_n dX12_act_82 rfl ?_
  refine z_gA (zF.x zfX12_90) h0.1 dX12_act_83 ?_
  refine z_aload_n dX12_act_86 rfl ?_
  refine z_gI (zF.x zfX12_351) h0.1 dX12_act_87 ?_
  refine z_iload_n dX12_act_90 rfl ?_
  obtain ⟨q15, h⟩ := zgd_elim h
  refine z_iast h0.2.2.2.2.2.2.2.2.2.2.2.2.2.2.2.2.2.2.2.2.2.2.2.2.2.2.2.1 (zin_ok q15) dX12_act_91 ?_
  obtain ⟨S16, eS16, h⟩ := zlet_elim h
  refine z_tS eS16 ?_
  refine z_aload_n dX12_act_92 rfl ?_
  refine z_gA (zF.x zfX12_93) h0.1 dX12_act_93 ?_
  refine z_aload_n dX12_act_96 rfl ?_
  refine z_gI (zF.x zfX12_351) h0.1 dX12_act_97 ?_
  refine z_iload_n dX12_act_100 rfl ?_
  obtain ⟨q17, h⟩ := zgd_elim h
  refine z_iast h0.2.2.2.2.2.2.2.2.2.2.2.2.2.2.2.2.2.2.2.2.2.2.2.2.2.2.2.2.1 (zin_ok q17) dX12_act_101 ?_
  obtain ⟨S18, eS18, h⟩ := zlet_elim h
  refine z_tS eS18 ?_
  refine z_aload_n dX12_act_102 rfl ?_
  refine z_dup dX12_act_103 rfl ?_
  refine z_gI (zF.x zfX12_351) h0.1 dX12_act_104 ?_
  refine z_iconst dX12_act_107 cI_1 ?_
  refine z_iadd dX12_act_108 rfl ?_
  refine z_putI zfX12_351 h0.1 dX12_act_109 ?_
  obtain ⟨S19, eS19, h⟩ := zlet_elim h
  refine z_tS eS19 ?_
  refine z_aload_n dX12_act_112 rfl ?_
  refine z_gI (zF.x zfX12_351) h0.1 dX12_act_113 ?_
  cases h
  exact z_iret rfl dX12_act_116
set_option maxHeartbeats 4000000 in
set_option maxRecDepth 100000 in
theorem tX12_act_b38 (T : zT) (k0 : Nat) (x1 : Int32) (x2 : Int32) (x3 : Int32) (S : zS) (h0 : iX12 T k0) {g : zG} (r : (Int32 × zS)) (h : fX12_act_b38 T k0 x1 x2 x3 S = some r)  : zg g 2 mX12_act T 38 [some (.ref k0), some (.int x1), some (.int x2), some (.int x3)] [] T S (some (.int r.1)) T r.2 := by
  unfold fX12_act_b38 at h
  refine z_iload_n dX12_act_38 rfl ?_
  refine z_i2l dX12_act_39 rfl ?_
  refine z_lconst (r := 0) dX12_act_40 rfl ?_
  refine z_ldc2 znX12_399 dX12_act_41 ?_
  obtain ⟨r6, hc7, h⟩ := zb1_elim h
  refine z_callS (As := [.long ((x2 : Int32).toInt64), .long 0, .long 4]) zkX12_201 zsX12_in (tX12_in T ((x2 : Int32).toInt64) 0 4 S  r6 hc7) rfl rfl (Nat.le_of_ble_eq_true rfl) (by decide) ⟨Nat.le_refl _, Nat.le_refl _⟩ ⟨Nat.le_refl _, Nat.le_refl _⟩ dX12_act_44 ?_
  refine z_if_eq (tgt := 70) dX12_act_47 (by decide) (fun q8 => ?_) (fun q8 => ?_)
  · rw [if_pos q8] at h
    exact z_mask [false, false, false, false] rfl (tX12_act_b70 T  S  r h)
  · rw [if_neg q8] at h
    refine z_iload_n dX12_act_50 rfl ?_
    refine z_iconst dX12_act_51 cI_4 ?_
    refine z_icmp_ne (tgt := 62) dX12_act_52 (by decide) (fun q9 => ?_) (fun q9 => ?_)
    · rw [if_neg q9] at h
      refine z_aload_n dX12_act_62 rfl ?_
      refine z_iload_n dX12_act_63 rfl ?_
      obtain ⟨r10, hc11, h⟩ := zb1_elim h
      refine z_callV (As := [.int x3]) zcX12 zkX12_375 ziX12_has zqX12_has h0.1 (tX12_has T k0 x3 S h0 r10 hc11) rfl rfl (Nat.le_of_ble_eq_true rfl) (by decide) ⟨Nat.le_refl _, Nat.le_refl _⟩ ⟨Nat.le_refl _, Nat.le_refl _⟩ dX12_act_64 ?_
      refine z_if_ne (tgt := 72) dX12_act_67 (by decide) (fun q12 => ?_) (fun q12 => ?_)
      · rw [if_neg q12] at h
        exact z_mask [true, true, true, true] rfl (tX12_act_b72 T k0 x1 x2 x3 S h0 r h)
      · rw [if_pos q12] at h
        exact z_mask [false, false, false, false] rfl (tX12_act_b70 T  S  r h)
    · rw [if_pos q9] at h
      refine z_iload_n dX12_act_55 rfl ?_
      refine z_if_eq (tgt := 72) dX12_act_56 (by decide) (fun q20 => ?_) (fun q20 => ?_)
      · rw [if_pos q20] at h
        exact z_mask [true, true, true, true] rfl (tX12_act_b72 T k0 x1 x2 x3 S h0 r h)
      · rw [if_neg q20] at h
        refine z_goto (tgt := 70) dX12_act_59 (by decide) ?_
        exact z_mask [false, false, false, false] rfl (tX12_act_b70 T  S  r h)
set_option maxHeartbeats 4000000 in
set_option maxRecDepth 100000 in
theorem tX12_act (T : zT) (k0 : Nat) (x1 : Int32) (x2 : Int32) (x3 : Int32) (S : zS) (h0 : iX12 T k0) (r : Int32 × zS) (h : fX12_act T k0 x1 x2 x3 S = some r) : zGM 2 mX12_act [.ref k0, .int x1, .int x2, .int x3] T S (some (.int r.1)) T r.2 := by
  refine zGM_of zpnX12 rfl (Nat.le_of_ble_eq_true rfl) (fun g => ?_)
  show zg g 2 mX12_act T 0 [some (.ref k0), some (.int x1), some (.int x2), some (.int x3)] [] T S (some (.int r.1)) T r.2
  unfold fX12_act at h
  refine z_aload_n dX12_act_0 rfl ?_
  refine z_gI (zF.x zfX12_351) h0.1 dX12_act_1 ?_
  refine z_bipush dX12_act_4 cB_60 ?_
  refine z_icmp_eq (tgt := 70) dX12_act_6 (by decide) (fun q1 => ?_) (fun q1 => ?_)
  · rw [if_pos q1] at h
    exact z_mask [false, false, false, false] rfl (tX12_act_b70 T  S  r h)
  · rw [if_neg q1] at h
    refine z_iload_n dX12_act_9 rfl ?_
    obtain ⟨r2, hc3, h⟩ := zb1_elim h
    refine z_callS (As := [.int x1]) zkX12_382 zsX12_isWeek (tX12_isWeek T x1 S  r2 hc3) rfl rfl (Nat.le_of_ble_eq_true rfl) (by decide) ⟨Nat.le_refl _, Nat.le_refl _⟩ ⟨Nat.le_refl _, Nat.le_refl _⟩ dX12_act_10 ?_
    refine z_if_eq (tgt := 70) dX12_act_13 (by decide) (fun q4 => ?_) (fun q4 => ?_)
    · rw [if_pos q4] at h
      exact z_mask [false, false, false, false] rfl (tX12_act_b70 T  S  r h)
    · rw [if_neg q4] at h
      refine z_aload_n dX12_act_16 rfl ?_
      refine z_gI (zF.x zfX12_351) h0.1 dX12_act_17 ?_
      refine z_if_le (tgt := 38) dX12_act_20 (by decide) (fun q5 => ?_) (fun q5 => ?_)
      · rw [if_pos q5] at h
        exact z_mask [true, true, true, true] rfl (tX12_act_b38 T k0 x1 x2 x3 S h0 r h)
      · rw [if_neg q5] at h
        refine z_iload_n dX12_act_23 rfl ?_
        refine z_aload_n dX12_act_24 rfl ?_
        refine z_gA (zF.x zfX12_87) h0.1 dX12_act_25 ?_
        refine z_aload_n dX12_act_28 rfl ?_
        refine z_gI (zF.x zfX12_351) h0.1 dX12_act_29 ?_
        refine z_iconst dX12_act_32 cI_1 ?_
        refine z_isub dX12_act_33 rfl ?_
        obtain ⟨q21, h⟩ := zgd_elim h
        refine z_iald h0.2.2.2.2.2.2.2.2.2.2.2.2.2.2.2.2.2.2.2.2.2.2.2.2.2.2.1 (zin_ok q21) dX12_act_34 ?_
        refine z_icmp_lt (tgt := 70) dX12_act_35 (by decide) (fun q22 => ?_) (fun q22 => ?_)
        · rw [if_pos q22] at h
          exact z_mask [false, false, false, false] rfl (tX12_act_b70 T  S  r h)
        · rw [if_neg q22] at h
          exact z_mask [true, true, true, true] rfl (tX12_act_b38 T k0 x1 x2 x3 S h0 r h)
/-! X12_needed -/
noncomputable def fX12_needed_b15 (T : zT)  (S : zS) : Option Int32 :=
  some (-1)
noncomputable def fX12_needed_b84 (T : zT) (k0 : Nat) (x1 : Int32) (x2 : Int32) (x3 : Int32) (x4 : Int32) (S : zS) : Option ((Int32 × Int32) ⊕ (Int32 ⊕ Unit)) :=
  zlet (x4 + 1) fun u10 => some (.inl (x3, u10))
noncomputable def fX12_needed_b74 (T : zT) (k0 : Nat) (x1 : Int32) (x2 : Int32) (x3 : Int32) (x4 : Int32) (S : zS) : Option ((Int32 × Int32) ⊕ (Int32 ⊕ Unit)) :=
  zb1 (fX12_owedAtFirst T k0 x4 x2 S) fun r14 => zlet (x3 + r14) fun u16 => fX12_needed_b84 T k0 x1 x2 u16 x4 S
noncomputable def fX12_needed_l22 (T : zT) (k0 : Nat) (x1 : Int32) (x2 : Int32) (S : zS) (x3 : Int32) (x4 : Int32) : Option ((Int32 × Int32) ⊕ (Int32 ⊕ Unit)) :=
  if 8 ≤ x4 then some (.inr (.inl x3)) else zgd (zin x4 16) (if (S.1 (zr T k0 22) (x4 : Int32).toNatClampNeg) = 1 then if ((x1 >>> (x4 &&& 31)) &&& 1) = 0 then zgd (zin x4 16) (if (S.1 (zr T k0 25) (x4 : Int32).toNatClampNeg) = (-1) then fX12_needed_b74 T k0 x1 x2 x3 x4 S else zgd (zin x4 16) (if x2 < (S.1 (zr T k0 25) (x4 : Int32).toNatClampNeg) then fX12_needed_b74 T k0 x1 x2 x3 x4 S else some (.inr (.inr ())))) else fX12_needed_b84 T k0 x1 x2 x3 x4 S else fX12_needed_b84 T k0 x1 x2 x3 x4 S)
noncomputable def fX12_needed (T : zT) (k0 : Nat) (x1 : Int32) (x2 : Int32) (S : zS) : Option Int32 :=
  zb1 (fX12_isSet T k0 x1 S) fun r1 => if r1 = 0 then fX12_needed_b15 T  S else zb1 (fX12_isWeek T x2 S) fun r4 => if r4 = 0 then fX12_needed_b15 T  S else zb1 (lp (fun a => fX12_needed_l22 T k0 x1 x2 S a.1 a.2) (0, 0)) fun e19 => zsm e19 (fun e19_0 => some e19_0) (fun e19_1 => some (-2))
set_option maxHeartbeats 4000000 in
set_option maxRecDepth 100000 in
theorem tX12_needed_b15 (T : zT)  (S : zS)  {g : zG} (r : Int32) (h : fX12_needed_b15 T  S = some r)  : zg g 2 mX12_needed T 15 [none, none, none, none, none] [] T S (some (.int r)) T S := by
  unfold fX12_needed_b15 at h
  refine z_iconst dX12_needed_15 cI_m1 ?_
  cases h
  exact z_iret rfl dX12_needed_16
set_option maxHeartbeats 4000000 in
set_option maxRecDepth 100000 in
theorem tX12_needed_b84 (T : zT) (k0 : Nat) (x1 : Int32) (x2 : Int32) (x3 : Int32) (x4 : Int32) (S : zS) (h0 : iX12 T k0) {g : zG} {v : Option Value} {S' : zS} (r : ((Int32 × Int32) ⊕ (Int32 ⊕ Unit))) (h : fX12_needed_b84 T k0 x1 x2 x3 x4 S = some r) (K1 : ∀ a : (Int32 × Int32), r = .inl a → zg g 2 mX12_needed T 22 [some (.ref k0), some (.int x1), some (.int x2), some (.int a.1), some (.int a.2)] [] T S v T S') (K2_0 : ∀ e : Int32, r = .inr (.inl e) → zg g 2 mX12_needed T 90 [none, none, none, some (.int e), none] [] T S v T S') (K2_1 : ∀ e : Unit, r = .inr (.inr e) → zg g 2 mX12_needed T 71 [none, none, none, none, none] [] T S v T S') : zg g 2 mX12_needed T 84 [some (.ref k0), some (.int x1), some (.int x2), some (.int x3), some (.int x4)] [] T S v T S' := by
  unfold fX12_needed_b84 at h
  obtain ⟨u10, eu10, h⟩ := zlet_elim h
  refine z_iinc (r := u10) dX12_needed_84 rfl (by rw [eu10, cI_1]) rfl (by decide) rfl ?_
  refine z_goto (tgt := 22) dX12_needed_87 (by decide) ?_
  cases h
  exact z_mask [true, true, true, true, true] rfl (K1 _ rfl)
set_option maxHeartbeats 4000000 in
set_option maxRecDepth 100000 in
theorem tX12_needed_b74 (T : zT) (k0 : Nat) (x1 : Int32) (x2 : Int32) (x3 : Int32) (x4 : Int32) (S : zS) (h0 : iX12 T k0) {g : zG} {v : Option Value} {S' : zS} (r : ((Int32 × Int32) ⊕ (Int32 ⊕ Unit))) (h : fX12_needed_b74 T k0 x1 x2 x3 x4 S = some r) (K1 : ∀ a : (Int32 × Int32), r = .inl a → zg g 2 mX12_needed T 22 [some (.ref k0), some (.int x1), some (.int x2), some (.int a.1), some (.int a.2)] [] T S v T S') (K2_0 : ∀ e : Int32, r = .inr (.inl e) → zg g 2 mX12_needed T 90 [none, none, none, some (.int e), none] [] T S v T S') (K2_1 : ∀ e : Unit, r = .inr (.inr e) → zg g 2 mX12_needed T 71 [none, none, none, none, none] [] T S v T S') : zg g 2 mX12_needed T 74 [some (.ref k0), some (.int x1), some (.int x2), some (.int x3), some (.int x4)] [] T S v T S' := by
  unfold fX12_needed_b74 at h
  refine z_iload_n dX12_needed_74 rfl ?_
  refine z_aload_n dX12_needed_75 rfl ?_
  refine z_iload dX12_needed_76 rfl ?_
  refine z_iload_n dX12_needed_78 rfl ?_
  obtain ⟨r14, hc15, h⟩ := zb1_elim h
  refine z_callV (As := [.int x4, .int x2]) zcX12 zkX12_385 ziX12_owedAtFirst zqX12_owedAtFirst h0.1 (tX12_owedAtFirst T k0 x4 x2 S h0 r14 hc15) rfl rfl (Nat.le_of_ble_eq_true rfl) (by decide) ⟨Nat.le_refl _, Nat.le_refl _⟩ ⟨Nat.le_refl _, Nat.le_refl _⟩ dX12_needed_79 ?_
  refine z_iadd dX12_needed_82 rfl ?_
  obtain ⟨u16, eu16, h⟩ := zlet_elim h
  refine z_ti eu16 ?_
  refine z_istore_n dX12_needed_83 rfl (by decide) rfl ?_
  exact z_mask [true, true, true, true, true] rfl (tX12_needed_b84 T k0 x1 x2 u16 x4 S h0 r h K1 K2_0 K2_1)
set_option maxHeartbeats 4000000 in
set_option maxRecDepth 100000 in
theorem tX12_needed_l22b (T : zT) (k0 : Nat) (x1 : Int32) (x2 : Int32) (S : zS) (x3 : Int32) (x4 : Int32) (h0 : iX12 T k0) {g : zG} {v : Option Value} {S' : zS} (r : (Int32 × Int32) ⊕ (Int32 ⊕ Unit)) (h : fX12_needed_l22 T k0 x1 x2 S x3 x4 = some r) (K1 : ∀ a : (Int32 × Int32), r = .inl a → zg g 2 mX12_needed T 22 [some (.ref k0), some (.int x1), some (.int x2), some (.int a.1), some (.int a.2)] [] T S v T S') (K2_0 : ∀ e : Int32, r = .inr (.inl e) → zg g 2 mX12_needed T 90 [none, none, none, some (.int e), none] [] T S v T S') (K2_1 : ∀ e : Unit, r = .inr (.inr e) → zg g 2 mX12_needed T 71 [none, none, none, none, none] [] T S v T S') : zg g 2 mX12_needed T 22 [some (.ref k0), some (.int x1), some (.int x2), some (.int x3), some (.int x4)] [] T S v T S' := by
  unfold fX12_needed_l22 at h
  refine z_iload dX12_needed_22 rfl ?_
  refine z_bipush dX12_needed_24 cB_8 ?_
  refine z_icmp_ge (tgt := 90) dX12_needed_26 (by decide) (fun q7 => ?_) (fun q7 => ?_)
  · rw [if_pos q7] at h
    cases h
    exact z_mask [false, false, false, true, false] rfl (K2_0 _ rfl)
  · rw [if_neg q7] at h
    refine z_aload_n dX12_needed_29 rfl ?_
    refine z_gA (zF.x zfX12_44) h0.1 dX12_needed_30 ?_
    refine z_iload dX12_needed_33 rfl ?_
    obtain ⟨q8, h⟩ := zgd_elim h
    refine z_iald h0.2.2.2.2.2.2.2.2.2.2.2.2.1 (zin_ok q8) dX12_needed_35 ?_
    refine z_iconst dX12_needed_36 cI_1 ?_
    refine z_icmp_ne (tgt := 84) dX12_needed_37 (by decide) (fun q9 => ?_) (fun q9 => ?_)
    · rw [if_neg q9] at h
      exact z_mask [true, true, true, true, true] rfl (tX12_needed_b84 T k0 x1 x2 x3 x4 S h0 r h K1 K2_0 K2_1)
    · rw [if_pos q9] at h
      refine z_iload_n dX12_needed_40 rfl ?_
      refine z_iload dX12_needed_41 rfl ?_
      refine z_ishr dX12_needed_43 rfl ?_
      refine z_iconst dX12_needed_44 cI_1 ?_
      refine z_iand dX12_needed_45 rfl ?_
      refine z_if_ne (tgt := 84) dX12_needed_46 (by decide) (fun q11 => ?_) (fun q11 => ?_)
      · rw [if_neg q11] at h
        exact z_mask [true, true, true, true, true] rfl (tX12_needed_b84 T k0 x1 x2 x3 x4 S h0 r h K1 K2_0 K2_1)
      · rw [if_pos q11] at h
        refine z_aload_n dX12_needed_49 rfl ?_
        refine z_gA (zF.x zfX12_53) h0.1 dX12_needed_50 ?_
        refine z_iload dX12_needed_53 rfl ?_
        obtain ⟨q12, h⟩ := zgd_elim h
        refine z_iald h0.2.2.2.2.2.2.2.2.2.2.2.2.2.2.2.1 (zin_ok q12) dX12_needed_55 ?_
        refine z_iconst dX12_needed_56 cI_m1 ?_
        refine z_icmp_eq (tgt := 74) dX12_needed_57 (by decide) (fun q13 => ?_) (fun q13 => ?_)
        · rw [if_pos q13] at h
          exact z_mask [true, true, true, true, true] rfl (tX12_needed_b74 T k0 x1 x2 x3 x4 S h0 r h K1 K2_0 K2_1)
        · rw [if_neg q13] at h
          refine z_aload_n dX12_needed_60 rfl ?_
          refine z_gA (zF.x zfX12_53) h0.1 dX12_needed_61 ?_
          refine z_iload dX12_needed_64 rfl ?_
          obtain ⟨q17, h⟩ := zgd_elim h
          refine z_iald h0.2.2.2.2.2.2.2.2.2.2.2.2.2.2.2.1 (zin_ok q17) dX12_needed_66 ?_
          refine z_iload_n dX12_needed_67 rfl ?_
          refine z_icmp_gt (tgt := 74) dX12_needed_68 (by decide) (fun q18 => ?_) (fun q18 => ?_)
          · rw [if_pos q18] at h
            exact z_mask [true, true, true, true, true] rfl (tX12_needed_b74 T k0 x1 x2 x3 x4 S h0 r h K1 K2_0 K2_1)
          · rw [if_neg q18] at h
            cases h
            exact z_mask [false, false, false, false, false] rfl (K2_1 _ rfl)
set_option maxHeartbeats 4000000 in
set_option maxRecDepth 100000 in
theorem tX12_needed_l22 (T : zT) (k0 : Nat) (x1 : Int32) (x2 : Int32) (S : zS) (h0 : iX12 T k0) {g : zG} {v : Option Value} {S' : zS} : ∀ (n : Nat) (a : (Int32 × Int32)) (e : (Int32 ⊕ Unit)), lpn (fun a => fX12_needed_l22 T k0 x1 x2 S a.1 a.2) n a = some e → (∀ e1 : Int32, e = (.inl e1) → zg g 2 mX12_needed T 90 [none, none, none, some (.int e1), none] [] T S v T S') → (∀ e1 : Unit, e = (.inr e1) → zg g 2 mX12_needed T 71 [none, none, none, none, none] [] T S v T S') → zg g 2 mX12_needed T 22 [some (.ref k0), some (.int x1), some (.int x2), some (.int a.1), some (.int a.2)] [] T S v T S' := by
  intro n
  induction n with
  | zero =>
    intro a e h
    cases h
  | succ n ih =>
    intro a e h k0_ k1_
    rcases lpn_succ h with ⟨a1, ha_, hb_⟩ | ha_
    · exact tX12_needed_l22b T k0 x1 x2 S a.1 a.2 h0 _ ha_ (fun a2 q => by cases q; exact ih a1 e hb_ k0_ k1_) (fun e1 q => by cases q) (fun e1 q => by cases q)
    · exact tX12_needed_l22b T k0 x1 x2 S a.1 a.2 h0 _ ha_ (fun a2 q => by cases q) (fun e1 q => by cases q; exact k0_ _ rfl) (fun e1 q => by cases q; exact k1_ _ rfl)
set_option maxHeartbeats 4000000 in
set_option maxRecDepth 100000 in
theorem tX12_needed (T : zT) (k0 : Nat) (x1 : Int32) (x2 : Int32) (S : zS) (h0 : iX12 T k0) (r : Int32) (h : fX12_needed T k0 x1 x2 S = some r) : zGM 2 mX12_needed [.ref k0, .int x1, .int x2] T S (some (.int r)) T S := by
  refine zGM_of zpnX12 rfl (Nat.le_of_ble_eq_true rfl) (fun g => ?_)
  show zg g 2 mX12_needed T 0 [some (.ref k0), some (.int x1), some (.int x2), none, none] [] T S (some (.int r)) T S
  unfold fX12_needed at h
  refine z_aload_n dX12_needed_0 rfl ?_
  refine z_iload_n dX12_needed_1 rfl ?_
  obtain ⟨r1, hc2, h⟩ := zb1_elim h
  refine z_callV (As := [.int x1]) zcX12 zkX12_392 ziX12_isSet zqX12_isSet h0.1 (tX12_isSet T k0 x1 S h0 r1 hc2) rfl rfl (Nat.le_of_ble_eq_true rfl) (by decide) ⟨Nat.le_refl _, Nat.le_refl _⟩ ⟨Nat.le_refl _, Nat.le_refl _⟩ dX12_needed_2 ?_
  refine z_if_eq (tgt := 15) dX12_needed_5 (by decide) (fun q3 => ?_) (fun q3 => ?_)
  · rw [if_pos q3] at h
    exact z_mask [false, false, false, false, false] rfl (tX12_needed_b15 T  S  r h)
  · rw [if_neg q3] at h
    refine z_iload_n dX12_needed_8 rfl ?_
    obtain ⟨r4, hc5, h⟩ := zb1_elim h
    refine z_callS (As := [.int x2]) zkX12_382 zsX12_isWeek (tX12_isWeek T x2 S  r4 hc5) rfl rfl (Nat.le_of_ble_eq_true rfl) (by decide) ⟨Nat.le_refl _, Nat.le_refl _⟩ ⟨Nat.le_refl _, Nat.le_refl _⟩ dX12_needed_9 ?_
    refine z_if_ne (tgt := 17) dX12_needed_12 (by decide) (fun q6 => ?_) (fun q6 => ?_)
    · rw [if_neg q6] at h
      refine z_iconst dX12_needed_17 cI_0 ?_
      refine z_istore_n dX12_needed_18 rfl (by decide) rfl ?_
      refine z_iconst dX12_needed_19 cI_0 ?_
      refine z_istore dX12_needed_20 rfl (by decide) rfl ?_
      obtain ⟨e19, hl20, h⟩ := zb1_elim h
      obtain ⟨nf21, hl20⟩ := lp_some hl20
      refine z_mask [true, true, true, true, true] rfl (tX12_needed_l22 T k0 x1 x2 S h0 nf21 (0, 0) e19 hl20 (fun e19_0 q => ?_) (fun e19_1 q => ?_))
      · cases q
        replace h := zsm_l h
        refine z_iload_n dX12_needed_90 rfl ?_
        cases h
        exact z_iret rfl dX12_needed_91
      · cases q
        replace h := zsm_r h
        refine z_bipush dX12_needed_71 cB_m2 ?_
        cases h
        exact z_iret rfl dX12_needed_73
    · rw [if_pos q6] at h
      exact z_mask [false, false, false, false, false] rfl (tX12_needed_b15 T  S  r h)
/-! X12_image -/
noncomputable def fX12_image (T : zT) (k0 : Nat) (x1 : Int32) (S : zS) : Option (Int32 × zS) :=
  zb1 (fX12_in T ((x1 : Int32).toInt64) 0 3 S) fun r1 => if r1 = 0 then some ((-1), S) else zgd (zin x1 4) (zlet (zI S (zr T k0 64) (x1 : Int32).toNatClampNeg (vp_nar .boolean 1)) fun S5 => zlet (zI S5 k0 66 0) fun S6 => zb (fX12_carries T k0 x1 S6) fun _ S9 => some ((S9.1 k0 36), S9))
set_option maxHeartbeats 4000000 in
set_option maxRecDepth 100000 in
theorem tX12_image (T : zT) (k0 : Nat) (x1 : Int32) (S : zS) (h0 : iX12 T k0) (r : Int32 × zS) (h : fX12_image T k0 x1 S = some r) : zGM 2 mX12_image [.ref k0, .int x1] T S (some (.int r.1)) T r.2 := by
  refine zGM_of zpnX12 rfl (Nat.le_of_ble_eq_true rfl) (fun g => ?_)
  show zg g 2 mX12_image T 0 [some (.ref k0), some (.int x1)] [] T S (some (.int r.1)) T r.2
  unfold fX12_image at h
  refine z_iload_n dX12_image_0 rfl ?_
  refine z_i2l dX12_image_1 rfl ?_
  refine z_lconst (r := 0) dX12_image_2 rfl ?_
  refine z_ldc2 znX12_552 dX12_image_3 ?_
  obtain ⟨r1, hc2, h⟩ := zb1_elim h
  refine z_callS (As := [.long ((x1 : Int32).toInt64), .long 0, .long 3]) zkX12_201 zsX12_in (tX12_in T ((x1 : Int32).toInt64) 0 3 S  r1 hc2) rfl rfl (Nat.le_of_ble_eq_true rfl) (by decide) ⟨Nat.le_refl _, Nat.le_refl _⟩ ⟨Nat.le_refl _, Nat.le_refl _⟩ dX12_image_6 ?_
  refine z_if_ne (tgt := 14) dX12_image_9 (by decide) (fun q3 => ?_) (fun q3 => ?_)
  · rw [if_neg q3] at h
    refine z_aload_n dX12_image_14 rfl ?_
    refine z_gA (zF.x zfX12_133) h0.1 dX12_image_15 ?_
    refine z_iload_n dX12_image_18 rfl ?_
    refine z_iconst dX12_image_19 cI_1 ?_
    obtain ⟨q4, h⟩ := zgd_elim h
    refine z_zast h0.2.2.2.2.2.2.2.2.2.2.2.2.2.2.2.2.2.2.2.2.2.2.2.2.2.2.2.2.2.2.2.2.2.2.2.2.2.2.2.2.2.1 (zin_ok q4) dX12_image_20 ?_
    obtain ⟨S5, eS5, h⟩ := zlet_elim h
    refine z_tS eS5 ?_
    refine z_aload_n dX12_image_21 rfl ?_
    refine z_iconst dX12_image_22 cI_0 ?_
    refine z_putZ zfX12_557 (Or.inl rfl) h0.1 dX12_image_23 ?_
    obtain ⟨S6, eS6, h⟩ := zlet_elim h
    refine z_tS eS6 ?_
    refine z_aload_n dX12_image_26 rfl ?_
    refine z_iload_n dX12_image_27 rfl ?_
    obtain ⟨r7, S9, hc8, h⟩ := zb_elim h
    refine z_callV (As := [.int x1]) zcX12 zkX12_566 ziX12_carries zqX12_carries h0.1 (tX12_carries T k0 x1 S6 h0 (r7, S9) hc8) rfl rfl (Nat.le_of_ble_eq_true rfl) (by decide) ⟨Nat.le_refl _, Nat.le_refl _⟩ ⟨Nat.le_refl _, Nat.le_refl _⟩ dX12_image_28 ?_
    refine z_aload_n dX12_image_31 rfl ?_
    refine z_gI (zF.x zfX12_351) h0.1 dX12_image_32 ?_
    cases h
    exact z_iret rfl dX12_image_35
  · rw [if_pos q3] at h
    refine z_iconst dX12_image_12 cI_m1 ?_
    cases h
    exact z_iret rfl dX12_image_13
/-! X12_back -/
noncomputable def fX12_back_b21 (T : zT)  (S : zS) : Option (Int32 × zS) :=
  some ((-1), S)
noncomputable def fX12_back (T : zT) (k0 : Nat) (x1 : Int32) (S : zS) : Option (Int32 × zS) :=
  zb1 (fX12_in T ((x1 : Int32).toInt64) 0 3 S) fun r1 => if r1 = 0 then fX12_back_b21 T  S else zgd (zin x1 4) (if (S.1 (zr T k0 64) (x1 : Int32).toNatClampNeg) = 0 then fX12_back_b21 T  S else zlet (zI S k0 66 1) fun S6 => zb (fX12_carries T k0 x1 S6) fun _ S9 => some ((S9.1 k0 36), S9))
set_option maxHeartbeats 4000000 in
set_option maxRecDepth 100000 in
theorem tX12_back_b21 (T : zT)  (S : zS)  {g : zG} (r : (Int32 × zS)) (h : fX12_back_b21 T  S = some r)  : zg g 2 mX12_back T 21 [none, none] [] T S (some (.int r.1)) T r.2 := by
  unfold fX12_back_b21 at h
  refine z_iconst dX12_back_21 cI_m1 ?_
  cases h
  exact z_iret rfl dX12_back_22
set_option maxHeartbeats 4000000 in
set_option maxRecDepth 100000 in
theorem tX12_back (T : zT) (k0 : Nat) (x1 : Int32) (S : zS) (h0 : iX12 T k0) (r : Int32 × zS) (h : fX12_back T k0 x1 S = some r) : zGM 2 mX12_back [.ref k0, .int x1] T S (some (.int r.1)) T r.2 := by
  refine zGM_of zpnX12 rfl (Nat.le_of_ble_eq_true rfl) (fun g => ?_)
  show zg g 2 mX12_back T 0 [some (.ref k0), some (.int x1)] [] T S (some (.int r.1)) T r.2
  unfold fX12_back at h
  refine z_iload_n dX12_back_0 rfl ?_
  refine z_i2l dX12_back_1 rfl ?_
  refine z_lconst (r := 0) dX12_back_2 rfl ?_
  refine z_ldc2 znX12_552 dX12_back_3 ?_
  obtain ⟨r1, hc2, h⟩ := zb1_elim h
  refine z_callS (As := [.long ((x1 : Int32).toInt64), .long 0, .long 3]) zkX12_201 zsX12_in (tX12_in T ((x1 : Int32).toInt64) 0 3 S  r1 hc2) rfl rfl (Nat.le_of_ble_eq_true rfl) (by decide) ⟨Nat.le_refl _, Nat.le_refl _⟩ ⟨Nat.le_refl _, Nat.le_refl _⟩ dX12_back_6 ?_
  refine z_if_eq (tgt := 21) dX12_back_9 (by decide) (fun q3 => ?_) (fun q3 => ?_)
  · rw [if_pos q3] at h
    exact z_mask [false, false] rfl (tX12_back_b21 T  S  r h)
  · rw [if_neg q3] at h
    refine z_aload_n dX12_back_12 rfl ?_
    refine z_gA (zF.x zfX12_133) h0.1 dX12_back_13 ?_
    refine z_iload_n dX12_back_16 rfl ?_
    obtain ⟨q4, h⟩ := zgd_elim h
    refine z_zald h0.2.2.2.2.2.2.2.2.2.2.2.2.2.2.2.2.2.2.2.2.2.2.2.2.2.2.2.2.2.2.2.2.2.2.2.2.2.2.2.2.2.1 (zin_ok q4) dX12_back_17 ?_
    refine z_if_ne (tgt := 23) dX12_back_18 (by decide) (fun q5 => ?_) (fun q5 => ?_)
    · rw [if_neg q5] at h
      refine z_aload_n dX12_back_23 rfl ?_
      refine z_iconst dX12_back_24 cI_1 ?_
      refine z_putZ zfX12_557 (Or.inr rfl) h0.1 dX12_back_25 ?_
      obtain ⟨S6, eS6, h⟩ := zlet_elim h
      refine z_tS eS6 ?_
      refine z_aload_n dX12_back_28 rfl ?_
      refine z_iload_n dX12_back_29 rfl ?_
      obtain ⟨r7, S9, hc8, h⟩ := zb_elim h
      refine z_callV (As := [.int x1]) zcX12 zkX12_566 ziX12_carries zqX12_carries h0.1 (tX12_carries T k0 x1 S6 h0 (r7, S9) hc8) rfl rfl (Nat.le_of_ble_eq_true rfl) (by decide) ⟨Nat.le_refl _, Nat.le_refl _⟩ ⟨Nat.le_refl _, Nat.le_refl _⟩ dX12_back_30 ?_
      refine z_aload_n dX12_back_33 rfl ?_
      refine z_gI (zF.x zfX12_351) h0.1 dX12_back_34 ?_
      cases h
      exact z_iret rfl dX12_back_37
    · rw [if_pos q5] at h
      exact z_mask [false, false] rfl (tX12_back_b21 T  S  r h)
/-! X12_amount -/
noncomputable def fX12_amount_b46 (T : zT) (x4 : Int32) (S : zS) : Option (Int32 × zS) :=
  some (x4, S)
noncomputable def fX12_amount_b25 (T : zT) (k0 : Nat) (x1 : Int32) (x3 : Int32) (s0 : Int32) (S : zS) : Option (Int32 × zS) :=
  if (S.1 k0 3) = 0 then if x1 ≤ s0 then fX12_amount_b46 T s0 S else zb (fX12_fails T k0 1 x3 S) fun _ S10 => fX12_amount_b46 T s0 S10 else fX12_amount_b46 T s0 S
noncomputable def fX12_amount (T : zT) (k0 : Nat) (x1 : Int32) (x2 : Int32) (S : zS) : Option (Int32 × zS) :=
  zb (fX12_blanks T k0 S) fun _ S3 => zlet (S3.1 k0 2) fun u4 => if (S3.1 k0 3) = 0 then zb (fX12_digits T k0 x2 S3) fun r11 S13 => fX12_amount_b25 T k0 x1 u4 r11 S13 else fX12_amount_b25 T k0 x1 u4 0 S3
set_option maxHeartbeats 4000000 in
set_option maxRecDepth 100000 in
theorem tX12_amount_b46 (T : zT) (x4 : Int32) (S : zS)  {g : zG} (r : (Int32 × zS)) (h : fX12_amount_b46 T x4 S = some r)  : zg g 3 mX12_amount T 46 [none, none, none, none, some (.int x4)] [] T S (some (.int r.1)) T r.2 := by
  unfold fX12_amount_b46 at h
  refine z_iload dX12_amount_46 rfl ?_
  cases h
  exact z_iret rfl dX12_amount_48
set_option maxHeartbeats 4000000 in
set_option maxRecDepth 100000 in
theorem tX12_amount_b25 (T : zT) (k0 : Nat) (x1 : Int32) (x3 : Int32) (s0 : Int32) (S : zS) (h0 : iX12 T k0) {g : zG} (r : (Int32 × zS)) (h : fX12_amount_b25 T k0 x1 x3 s0 S = some r)  : zg g 3 mX12_amount T 25 [some (.ref k0), some (.int x1), none, some (.int x3), none] [.int s0] T S (some (.int r.1)) T r.2 := by
  unfold fX12_amount_b25 at h
  refine z_istore dX12_amount_25 rfl (by decide) rfl ?_
  refine z_aload_n dX12_amount_27 rfl ?_
  refine z_gI (zF.x zfX12_187) h0.1 dX12_amount_28 ?_
  refine z_if_ne (tgt := 46) dX12_amount_31 (by decide) (fun q6 => ?_) (fun q6 => ?_)
  · rw [if_neg q6] at h
    exact z_mask [false, false, false, false, true] rfl (tX12_amount_b46 T s0 S  r h)
  · rw [if_pos q6] at h
    refine z_iload dX12_amount_34 rfl ?_
    refine z_iload_n dX12_amount_36 rfl ?_
    refine z_icmp_ge (tgt := 46) dX12_amount_37 (by decide) (fun q7 => ?_) (fun q7 => ?_)
    · rw [if_pos q7] at h
      exact z_mask [false, false, false, false, true] rfl (tX12_amount_b46 T s0 S  r h)
    · rw [if_neg q7] at h
      refine z_aload_n dX12_amount_40 rfl ?_
      refine z_iconst dX12_amount_41 cI_1 ?_
      refine z_iload_n dX12_amount_42 rfl ?_
      obtain ⟨r8, S10, hc9, h⟩ := zb_elim h
      refine z_callV (As := [.int 1, .int x3]) zcX12 zkX12_226 ziX12_fails zqX12_fails h0.1 (tX12_fails T k0 1 x3 S h0 (r8, S10) hc9) rfl rfl (Nat.le_of_ble_eq_true rfl) (by decide) ⟨Nat.le_refl _, Nat.le_refl _⟩ ⟨Nat.le_refl _, Nat.le_refl _⟩ dX12_amount_43 ?_
      exact z_mask [false, false, false, false, true] rfl (tX12_amount_b46 T s0 S10  r h)
set_option maxHeartbeats 4000000 in
set_option maxRecDepth 100000 in
theorem tX12_amount (T : zT) (k0 : Nat) (x1 : Int32) (x2 : Int32) (S : zS) (h0 : iX12 T k0) (r : Int32 × zS) (h : fX12_amount T k0 x1 x2 S = some r) : zGM 3 mX12_amount [.ref k0, .int x1, .int x2] T S (some (.int r.1)) T r.2 := by
  refine zGM_of zpnX12 rfl (Nat.le_of_ble_eq_true rfl) (fun g => ?_)
  show zg g 3 mX12_amount T 0 [some (.ref k0), some (.int x1), some (.int x2), none, none] [] T S (some (.int r.1)) T r.2
  unfold fX12_amount at h
  refine z_aload_n dX12_amount_0 rfl ?_
  obtain ⟨r1, S3, hc2, h⟩ := zb_elim h
  refine z_callV (As := []) zcX12 zkX12_213 ziX12_blanks zqX12_blanks h0.1 (tX12_blanks T k0 S h0 (r1, S3) hc2) rfl rfl (Nat.le_of_ble_eq_true rfl) (by decide) ⟨Nat.le_refl _, Nat.le_refl _⟩ ⟨Nat.le_refl _, Nat.le_refl _⟩ dX12_amount_1 ?_
  refine z_aload_n dX12_amount_4 rfl ?_
  refine z_gI (zF.x zfX12_190) h0.1 dX12_amount_5 ?_
  obtain ⟨u4, eu4, h⟩ := zlet_elim h
  refine z_ti eu4 ?_
  refine z_istore_n dX12_amount_8 rfl (by decide) rfl ?_
  refine z_aload_n dX12_amount_9 rfl ?_
  refine z_gI (zF.x zfX12_187) h0.1 dX12_amount_10 ?_
  refine z_if_ne (tgt := 24) dX12_amount_13 (by decide) (fun q5 => ?_) (fun q5 => ?_)
  · rw [if_neg q5] at h
    refine z_iconst dX12_amount_24 cI_0 ?_
    exact z_mask [true, true, false, true, false] rfl (tX12_amount_b25 T k0 x1 u4 0 S3 h0 r h)
  · rw [if_pos q5] at h
    refine z_aload_n dX12_amount_16 rfl ?_
    refine z_iload_n dX12_amount_17 rfl ?_
    obtain ⟨r11, S13, hc12, h⟩ := zb_elim h
    refine z_callV (As := [.int x2]) zcX12 zkX12_235 ziX12_digits zqX12_digits h0.1 (tX12_digits T k0 x2 S3 h0 (r11, S13) hc12) rfl rfl (Nat.le_of_ble_eq_true rfl) (by decide) ⟨Nat.le_refl _, Nat.le_refl _⟩ ⟨Nat.le_refl _, Nat.le_refl _⟩ dX12_amount_18 ?_
    refine z_goto (tgt := 25) dX12_amount_21 (by decide) ?_
    exact z_mask [true, true, false, true, false] rfl (tX12_amount_b25 T k0 x1 u4 r11 S13 h0 r h)
/-! X12_comes -/
noncomputable def fX12_comes_b144 (T : zT) (k0 : Nat) (x1 : Int32) (x2 : Int32) (x6 : Int32) (s0 : Int32) (s1 : Int32) (S : zS) : Option ((Int32 × Int32 × zS) ⊕ (Int32 × zS)) :=
  zlet (s1 + s0) fun u16 => zlet (x6 + 1) fun u17 => some (.inl (u16, u17, S))
noncomputable def fX12_comes_b143 (T : zT) (k0 : Nat) (x1 : Int32) (x2 : Int32) (x6 : Int32) (s0 : Int32) (S : zS) : Option ((Int32 × Int32 × zS) ⊕ (Int32 × zS)) :=
  fX12_comes_b144 T k0 x1 x2 x6 0 s0 S
noncomputable def fX12_comes_b133 (T : zT) (k0 : Nat) (x1 : Int32) (x2 : Int32) (x6 : Int32) (s0 : Int32) (S : zS) : Option ((Int32 × Int32 × zS) ⊕ (Int32 × zS)) :=
  zgd (zin x6 192) (fX12_comes_b144 T k0 x1 x2 x6 (S.1 (zr T k0 17) (x6 : Int32).toNatClampNeg) s0 S)
noncomputable def fX12_comes_b83 (T : zT) (k0 : Nat) (x1 : Int32) (x2 : Int32) (x5 : Int32) (x6 : Int32) (s0 : Int32) (S : zS) : Option ((Int32 × Int32 × zS) ⊕ (Int32 × zS)) :=
  if s0 = 0 then fX12_comes_b143 T k0 x1 x2 x6 x5 S else zgd (zin x6 192) (zgd (zin x6 192) (if (S.1 (zr T k0 19) (x6 : Int32).toNatClampNeg) = (S.1 (zr T k0 20) (x6 : Int32).toNatClampNeg) then fX12_comes_b133 T k0 x1 x2 x6 x5 S else zgd (zin x6 192) (zgd (zin x6 192) (zb (fX12_answer T k0 0 (S.1 (zr T k0 19) (x6 : Int32).toNatClampNeg) (S.1 (zr T k0 20) (x6 : Int32).toNatClampNeg) S) fun r24 S26 => if (lg_cmp r24 1) = 0 then fX12_comes_b133 T k0 x1 x2 x6 x5 S26 else fX12_comes_b143 T k0 x1 x2 x6 x5 S26))))
noncomputable def fX12_comes_b82 (T : zT) (k0 : Nat) (x1 : Int32) (x2 : Int32) (x5 : Int32) (x6 : Int32) (S : zS) : Option ((Int32 × Int32 × zS) ⊕ (Int32 × zS)) :=
  fX12_comes_b83 T k0 x1 x2 x5 x6 0 S
noncomputable def fX12_comes_b78 (T : zT) (k0 : Nat) (x1 : Int32) (x2 : Int32) (x5 : Int32) (x6 : Int32) (S : zS) : Option ((Int32 × Int32 × zS) ⊕ (Int32 × zS)) :=
  fX12_comes_b83 T k0 x1 x2 x5 x6 1 S
noncomputable def fX12_comes_l37 (T : zT) (k0 : Nat) (x1 : Int32) (x2 : Int32) (x5 : Int32) (x6 : Int32) (S : zS) : Option ((Int32 × Int32 × zS) ⊕ (Int32 × zS)) :=
  zgd (zin 0 8) (if (S.1 (zr T k0 14) (0 : Int32).toNatClampNeg) ≤ x6 then some (.inr (x5, S)) else zgd (zin x6 192) (if (S.1 (zr T k0 15) (x6 : Int32).toNatClampNeg) = x1 then if x1 = 2 then fX12_comes_b78 T k0 x1 x2 x5 x6 S else zgd (zin x6 192) (if ((S.1 (zr T k0 16) (x6 : Int32).toNatClampNeg) &&& (x2 ^^^ (-1))) = 0 then fX12_comes_b78 T k0 x1 x2 x5 x6 S else fX12_comes_b82 T k0 x1 x2 x5 x6 S) else fX12_comes_b82 T k0 x1 x2 x5 x6 S))
noncomputable def fX12_comes (T : zT) (k0 : Nat) (x1 : Int32) (x2 : Int32) (x3 : Int32) (x4 : Int32) (S : zS) : Option (Int32 × zS) :=
  zgd (zin 0 9) (zlet (zJ S (zr T k0 34) (0 : Int32).toNatClampNeg ((x4 : Int32).toInt64)) fun S2 => zb1 (fX12_bits T x2 S2) fun r3 => zgd (zin 1 9) (zlet (zJ S2 (zr T k0 34) (1 : Int32).toNatClampNeg ((r3 : Int32).toInt64)) fun S6 => zb1 (fX12_bits T x3 S6) fun r7 => zgd (zin 2 9) (zlet (zJ S6 (zr T k0 34) (2 : Int32).toNatClampNeg ((r7 : Int32).toInt64)) fun S10 => zb1 (lp (fun a => fX12_comes_l37 T k0 x1 x2 a.1 a.2.1 a.2.2) (0, 0, S10)) fun e31 => some (e31.1, e31.2))))
set_option maxHeartbeats 4000000 in
set_option maxRecDepth 100000 in
theorem tX12_comes_b144 (T : zT) (k0 : Nat) (x1 : Int32) (x2 : Int32) (x6 : Int32) (s0 : Int32) (s1 : Int32) (S : zS) (h0 : iX12 T k0) {g : zG} {v : Option Value} {S' : zS} (r : ((Int32 × Int32 × zS) ⊕ (Int32 × zS))) (h : fX12_comes_b144 T k0 x1 x2 x6 s0 s1 S = some r) (K1 : ∀ a : (Int32 × Int32 × zS), r = .inl a → zg g 3 mX12_comes T 37 [some (.ref k0), some (.int x1), some (.int x2), none, none, some (.int a.1), some (.int a.2.1), none] [] T a.2.2 v T S') (K2_0 : ∀ e : (Int32 × zS), r = .inr e → zg g 3 mX12_comes T 153 [none, none, none, none, none, some (.int e.1), none, none] [] T e.2 v T S') : zg g 3 mX12_comes T 144 [some (.ref k0), some (.int x1), some (.int x2), none, none, none, some (.int x6), none] [.int s0, .int s1] T S v T S' := by
  unfold fX12_comes_b144 at h
  refine z_iadd dX12_comes_144 rfl ?_
  obtain ⟨u16, eu16, h⟩ := zlet_elim h
  refine z_ti eu16 ?_
  refine z_istore dX12_comes_145 rfl (by decide) rfl ?_
  obtain ⟨u17, eu17, h⟩ := zlet_elim h
  refine z_iinc (r := u17) dX12_comes_147 rfl (by rw [eu17, cI_1]) rfl (by decide) rfl ?_
  refine z_goto (tgt := 37) dX12_comes_150 (by decide) ?_
  cases h
  exact z_mask [true, true, true, false, false, true, true, false] rfl (K1 _ rfl)
set_option maxHeartbeats 4000000 in
set_option maxRecDepth 100000 in
theorem tX12_comes_b143 (T : zT) (k0 : Nat) (x1 : Int32) (x2 : Int32) (x6 : Int32) (s0 : Int32) (S : zS) (h0 : iX12 T k0) {g : zG} {v : Option Value} {S' : zS} (r : ((Int32 × Int32 × zS) ⊕ (Int32 × zS))) (h : fX12_comes_b143 T k0 x1 x2 x6 s0 S = some r) (K1 : ∀ a : (Int32 × Int32 × zS), r = .inl a → zg g 3 mX12_comes T 37 [some (.ref k0), some (.int x1), some (.int x2), none, none, some (.int a.1), some (.int a.2.1), none] [] T a.2.2 v T S') (K2_0 : ∀ e : (Int32 × zS), r = .inr e → zg g 3 mX12_comes T 153 [none, none, none, none, none, some (.int e.1), none, none] [] T e.2 v T S') : zg g 3 mX12_comes T 143 [some (.ref k0), some (.int x1), some (.int x2), none, none, none, some (.int x6), none] [.int s0] T S v T S' := by
  unfold fX12_comes_b143 at h
  refine z_iconst dX12_comes_143 cI_0 ?_
  exact z_mask [true, true, true, false, false, false, true, false] rfl (tX12_comes_b144 T k0 x1 x2 x6 0 s0 S h0 r h K1 K2_0)
set_option maxHeartbeats 4000000 in
set_option maxRecDepth 100000 in
theorem tX12_comes_b133 (T : zT) (k0 : Nat) (x1 : Int32) (x2 : Int32) (x6 : Int32) (s0 : Int32) (S : zS) (h0 : iX12 T k0) {g : zG} {v : Option Value} {S' : zS} (r : ((Int32 × Int32 × zS) ⊕ (Int32 × zS))) (h : fX12_comes_b133 T k0 x1 x2 x6 s0 S = some r) (K1 : ∀ a : (Int32 × Int32 × zS), r = .inl a → zg g 3 mX12_comes T 37 [some (.ref k0), some (.int x1), some (.int x2), none, none, some (.int a.1), some (.int a.2.1), none] [] T a.2.2 v T S') (K2_0 : ∀ e : (Int32 × zS), r = .inr e → zg g 3 mX12_comes T 153 [none, none, none, none, none, some (.int e.1), none, none] [] T e.2 v T S') : zg g 3 mX12_comes T 133 [some (.ref k0), some (.int x1), some (.int x2), none, none, none, some (.int x6), none] [.int s0] T S v T S' := by
  unfold fX12_comes_b133 at h
  refine z_aload_n dX12_comes_133 rfl ?_
  refine z_gA (zF.x zfX12_29) h0.1 dX12_comes_134 ?_
  refine z_iload dX12_comes_137 rfl ?_
  obtain ⟨q21, h⟩ := zgd_elim h
  refine z_iald h0.2.2.2.2.2.2.2.1 (zin_ok q21) dX12_comes_139 ?_
  refine z_goto (tgt := 144) dX12_comes_140 (by decide) ?_
  exact z_mask [true, true, true, false, false, false, true, false] rfl (tX12_comes_b144 T k0 x1 x2 x6 (S.1 (zr T k0 17) (x6 : Int32).toNatClampNeg) s0 S h0 r h K1 K2_0)
set_option maxHeartbeats 4000000 in
set_option maxRecDepth 100000 in
theorem tX12_comes_b83 (T : zT) (k0 : Nat) (x1 : Int32) (x2 : Int32) (x5 : Int32) (x6 : Int32) (s0 : Int32) (S : zS) (h0 : iX12 T k0) {g : zG} {v : Option Value} {S' : zS} (r : ((Int32 × Int32 × zS) ⊕ (Int32 × zS))) (h : fX12_comes_b83 T k0 x1 x2 x5 x6 s0 S = some r) (K1 : ∀ a : (Int32 × Int32 × zS), r = .inl a → zg g 3 mX12_comes T 37 [some (.ref k0), some (.int x1), some (.int x2), none, none, some (.int a.1), some (.int a.2.1), none] [] T a.2.2 v T S') (K2_0 : ∀ e : (Int32 × zS), r = .inr e → zg g 3 mX12_comes T 153 [none, none, none, none, none, some (.int e.1), none, none] [] T e.2 v T S') : zg g 3 mX12_comes T 83 [some (.ref k0), some (.int x1), some (.int x2), none, none, some (.int x5), some (.int x6), none] [.int s0] T S v T S' := by
  unfold fX12_comes_b83 at h
  refine z_istore dX12_comes_83 rfl (by decide) rfl ?_
  refine z_iload dX12_comes_85 rfl ?_
  refine z_iload dX12_comes_87 rfl ?_
  refine z_if_eq (tgt := 143) dX12_comes_89 (by decide) (fun q15 => ?_) (fun q15 => ?_)
  · rw [if_pos q15] at h
    exact z_mask [true, true, true, false, false, false, true, false] rfl (tX12_comes_b143 T k0 x1 x2 x6 x5 S h0 r h K1 K2_0)
  · rw [if_neg q15] at h
    refine z_aload_n dX12_comes_92 rfl ?_
    refine z_gA (zF.x zfX12_35) h0.1 dX12_comes_93 ?_
    refine z_iload dX12_comes_96 rfl ?_
    obtain ⟨q18, h⟩ := zgd_elim h
    refine z_iald h0.2.2.2.2.2.2.2.2.2.1 (zin_ok q18) dX12_comes_98 ?_
    refine z_aload_n dX12_comes_99 rfl ?_
    refine z_gA (zF.x zfX12_38) h0.1 dX12_comes_100 ?_
    refine z_iload dX12_comes_103 rfl ?_
    obtain ⟨q19, h⟩ := zgd_elim h
    refine z_iald h0.2.2.2.2.2.2.2.2.2.2.1 (zin_ok q19) dX12_comes_105 ?_
    refine z_icmp_eq (tgt := 133) dX12_comes_106 (by decide) (fun q20 => ?_) (fun q20 => ?_)
    · rw [if_pos q20] at h
      exact z_mask [true, true, true, false, false, false, true, false] rfl (tX12_comes_b133 T k0 x1 x2 x6 x5 S h0 r h K1 K2_0)
    · rw [if_neg q20] at h
      refine z_aload_n dX12_comes_109 rfl ?_
      refine z_iconst dX12_comes_110 cI_0 ?_
      refine z_aload_n dX12_comes_111 rfl ?_
      refine z_gA (zF.x zfX12_35) h0.1 dX12_comes_112 ?_
      refine z_iload dX12_comes_115 rfl ?_
      obtain ⟨q22, h⟩ := zgd_elim h
      refine z_iald h0.2.2.2.2.2.2.2.2.2.1 (zin_ok q22) dX12_comes_117 ?_
      refine z_aload_n dX12_comes_118 rfl ?_
      refine z_gA (zF.x zfX12_38) h0.1 dX12_comes_119 ?_
      refine z_iload dX12_comes_122 rfl ?_
      obtain ⟨q23, h⟩ := zgd_elim h
      refine z_iald h0.2.2.2.2.2.2.2.2.2.2.1 (zin_ok q23) dX12_comes_124 ?_
      obtain ⟨r24, S26, hc25, h⟩ := zb_elim h
      refine z_callV (As := [.int 0, .int (S.1 (zr T k0 19) (x6 : Int32).toNatClampNeg), .int (S.1 (zr T k0 20) (x6 : Int32).toNatClampNeg)]) zcX12 zkX12_388 ziX12_answer zqX12_answer h0.1 (tX12_answer T k0 0 (S.1 (zr T k0 19) (x6 : Int32).toNatClampNeg) (S.1 (zr T k0 20) (x6 : Int32).toNatClampNeg) S h0 (r24, S26) hc25) rfl rfl (Nat.le_of_ble_eq_true rfl) (by decide) ⟨Nat.le_refl _, Nat.le_refl _⟩ ⟨Nat.le_refl _, Nat.le_refl _⟩ dX12_comes_125 ?_
      refine z_lconst (r := 1) dX12_comes_128 rfl ?_
      refine z_lcmp dX12_comes_129 rfl ?_
      refine z_if_ne (tgt := 143) dX12_comes_130 (by decide) (fun q27 => ?_) (fun q27 => ?_)
      · rw [if_neg q27] at h
        exact z_mask [true, true, true, false, false, false, true, false] rfl (tX12_comes_b143 T k0 x1 x2 x6 x5 S26 h0 r h K1 K2_0)
      · rw [if_pos q27] at h
        exact z_mask [true, true, true, false, false, false, true, false] rfl (tX12_comes_b133 T k0 x1 x2 x6 x5 S26 h0 r h K1 K2_0)
set_option maxHeartbeats 4000000 in
set_option maxRecDepth 100000 in
theorem tX12_comes_b82 (T : zT) (k0 : Nat) (x1 : Int32) (x2 : Int32) (x5 : Int32) (x6 : Int32) (S : zS) (h0 : iX12 T k0) {g : zG} {v : Option Value} {S' : zS} (r : ((Int32 × Int32 × zS) ⊕ (Int32 × zS))) (h : fX12_comes_b82 T k0 x1 x2 x5 x6 S = some r) (K1 : ∀ a : (Int32 × Int32 × zS), r = .inl a → zg g 3 mX12_comes T 37 [some (.ref k0), some (.int x1), some (.int x2), none, none, some (.int a.1), some (.int a.2.1), none] [] T a.2.2 v T S') (K2_0 : ∀ e : (Int32 × zS), r = .inr e → zg g 3 mX12_comes T 153 [none, none, none, none, none, some (.int e.1), none, none] [] T e.2 v T S') : zg g 3 mX12_comes T 82 [some (.ref k0), some (.int x1), some (.int x2), none, none, some (.int x5), some (.int x6), none] [] T S v T S' := by
  unfold fX12_comes_b82 at h
  refine z_iconst dX12_comes_82 cI_0 ?_
  exact z_mask [true, true, true, false, false, true, true, false] rfl (tX12_comes_b83 T k0 x1 x2 x5 x6 0 S h0 r h K1 K2_0)
set_option maxHeartbeats 4000000 in
set_option maxRecDepth 100000 in
theorem tX12_comes_b78 (T : zT) (k0 : Nat) (x1 : Int32) (x2 : Int32) (x5 : Int32) (x6 : Int32) (S : zS) (h0 : iX12 T k0) {g : zG} {v : Option Value} {S' : zS} (r : ((Int32 × Int32 × zS) ⊕ (Int32 × zS))) (h : fX12_comes_b78 T k0 x1 x2 x5 x6 S = some r) (K1 : ∀ a : (Int32 × Int32 × zS), r = .inl a → zg g 3 mX12_comes T 37 [some (.ref k0), some (.int x1), some (.int x2), none, none, some (.int a.1), some (.int a.2.1), none] [] T a.2.2 v T S') (K2_0 : ∀ e : (Int32 × zS), r = .inr e → zg g 3 mX12_comes T 153 [none, none, none, none, none, some (.int e.1), none, none] [] T e.2 v T S') : zg g 3 mX12_comes T 78 [some (.ref k0), some (.int x1), some (.int x2), none, none, some (.int x5), some (.int x6), none] [] T S v T S' := by
  unfold fX12_comes_b78 at h
  refine z_iconst dX12_comes_78 cI_1 ?_
  refine z_goto (tgt := 83) dX12_comes_79 (by decide) ?_
  exact z_mask [true, true, true, false, false, true, true, false] rfl (tX12_comes_b83 T k0 x1 x2 x5 x6 1 S h0 r h K1 K2_0)
set_option maxHeartbeats 4000000 in
set_option maxRecDepth 100000 in
theorem tX12_comes_l37b (T : zT) (k0 : Nat) (x1 : Int32) (x2 : Int32) (x5 : Int32) (x6 : Int32) (S : zS) (h0 : iX12 T k0) {g : zG} {v : Option Value} {S' : zS} (r : (Int32 × Int32 × zS) ⊕ (Int32 × zS)) (h : fX12_comes_l37 T k0 x1 x2 x5 x6 S = some r) (K1 : ∀ a : (Int32 × Int32 × zS), r = .inl a → zg g 3 mX12_comes T 37 [some (.ref k0), some (.int x1), some (.int x2), none, none, some (.int a.1), some (.int a.2.1), none] [] T a.2.2 v T S') (K2_0 : ∀ e : (Int32 × zS), r = .inr e → zg g 3 mX12_comes T 153 [none, none, none, none, none, some (.int e.1), none, none] [] T e.2 v T S') : zg g 3 mX12_comes T 37 [some (.ref k0), some (.int x1), some (.int x2), none, none, some (.int x5), some (.int x6), none] [] T S v T S' := by
  unfold fX12_comes_l37 at h
  refine z_iload dX12_comes_37 rfl ?_
  refine z_aload_n dX12_comes_39 rfl ?_
  refine z_gA (zF.x zfX12_20) h0.1 dX12_comes_40 ?_
  refine z_iconst dX12_comes_43 cI_0 ?_
  obtain ⟨q11, h⟩ := zgd_elim h
  refine z_iald h0.2.2.2.2.1 (zin_ok q11) dX12_comes_44 ?_
  refine z_icmp_ge (tgt := 153) dX12_comes_45 (by decide) (fun q12 => ?_) (fun q12 => ?_)
  · rw [if_pos q12] at h
    cases h
    exact z_mask [false, false, false, false, false, true, false, false] rfl (K2_0 _ rfl)
  · rw [if_neg q12] at h
    refine z_aload_n dX12_comes_48 rfl ?_
    refine z_gA (zF.x zfX12_23) h0.1 dX12_comes_49 ?_
    refine z_iload dX12_comes_52 rfl ?_
    obtain ⟨q13, h⟩ := zgd_elim h
    refine z_iald h0.2.2.2.2.2.1 (zin_ok q13) dX12_comes_54 ?_
    refine z_iload_n dX12_comes_55 rfl ?_
    refine z_icmp_ne (tgt := 82) dX12_comes_56 (by decide) (fun q14 => ?_) (fun q14 => ?_)
    · rw [if_neg q14] at h
      exact z_mask [true, true, true, false, false, true, true, false] rfl (tX12_comes_b82 T k0 x1 x2 x5 x6 S h0 r h K1 K2_0)
    · rw [if_pos q14] at h
      refine z_iload_n dX12_comes_59 rfl ?_
      refine z_iconst dX12_comes_60 cI_2 ?_
      refine z_icmp_eq (tgt := 78) dX12_comes_61 (by decide) (fun q28 => ?_) (fun q28 => ?_)
      · rw [if_pos q28] at h
        exact z_mask [true, true, true, false, false, true, true, false] rfl (tX12_comes_b78 T k0 x1 x2 x5 x6 S h0 r h K1 K2_0)
      · rw [if_neg q28] at h
        refine z_aload_n dX12_comes_64 rfl ?_
        refine z_gA (zF.x zfX12_26) h0.1 dX12_comes_65 ?_
        refine z_iload dX12_comes_68 rfl ?_
        obtain ⟨q29, h⟩ := zgd_elim h
        refine z_iald h0.2.2.2.2.2.2.1 (zin_ok q29) dX12_comes_70 ?_
        refine z_iload_n dX12_comes_71 rfl ?_
        refine z_iconst dX12_comes_72 cI_m1 ?_
        refine z_ixor dX12_comes_73 rfl ?_
        refine z_iand dX12_comes_74 rfl ?_
        refine z_if_ne (tgt := 82) dX12_comes_75 (by decide) (fun q30 => ?_) (fun q30 => ?_)
        · rw [if_neg q30] at h
          exact z_mask [true, true, true, false, false, true, true, false] rfl (tX12_comes_b82 T k0 x1 x2 x5 x6 S h0 r h K1 K2_0)
        · rw [if_pos q30] at h
          exact z_mask [true, true, true, false, false, true, true, false] rfl (tX12_comes_b78 T k0 x1 x2 x5 x6 S h0 r h K1 K2_0)
set_option maxHeartbeats 4000000 in
set_option maxRecDepth 100000 in
theorem tX12_comes_l37 (T : zT) (k0 : Nat) (x1 : Int32) (x2 : Int32) (h0 : iX12 T k0) {g : zG} {v : Option Value} {S' : zS} : ∀ (n : Nat) (a : (Int32 × Int32 × zS)) (e : (Int32 × zS)), lpn (fun a => fX12_comes_l37 T k0 x1 x2 a.1 a.2.1 a.2.2) n a = some e → (∀ e1 : (Int32 × zS), e = e1 → zg g 3 mX12_comes T 153 [none, none, none, none, none, some (.int e1.1), none, none] [] T e1.2 v T S') → zg g 3 mX12_comes T 37 [some (.ref k0), some (.int x1), some (.int x2), none, none, some (.int a.1), some (.int a.2.1), none] [] T a.2.2 v T S' := by
  intro n
  induction n with
  | zero =>
    intro a e h
    cases h
  | succ n ih =>
    intro a e h k0_
    rcases lpn_succ h with ⟨a1, ha_, hb_⟩ | ha_
    · exact tX12_comes_l37b T k0 x1 x2 a.1 a.2.1 a.2.2 h0 _ ha_ (fun a2 q => by cases q; exact ih a1 e hb_ k0_) (fun e1 q => by cases q)
    · exact tX12_comes_l37b T k0 x1 x2 a.1 a.2.1 a.2.2 h0 _ ha_ (fun a2 q => by cases q) (fun e1 q => by cases q; exact k0_ _ rfl)
set_option maxHeartbeats 4000000 in
set_option maxRecDepth 100000 in
theorem tX12_comes (T : zT) (k0 : Nat) (x1 : Int32) (x2 : Int32) (x3 : Int32) (x4 : Int32) (S : zS) (h0 : iX12 T k0) (r : Int32 × zS) (h : fX12_comes T k0 x1 x2 x3 x4 S = some r) : zGM 3 mX12_comes [.ref k0, .int x1, .int x2, .int x3, .int x4] T S (some (.int r.1)) T r.2 := by
  refine zGM_of zpnX12 rfl (Nat.le_of_ble_eq_true rfl) (fun g => ?_)
  show zg g 3 mX12_comes T 0 [some (.ref k0), some (.int x1), some (.int x2), some (.int x3), some (.int x4), none, none, none] [] T S (some (.int r.1)) T r.2
  unfold fX12_comes at h
  refine z_aload_n dX12_comes_0 rfl ?_
  refine z_gA (zF.x zfX12_80) h0.1 dX12_comes_1 ?_
  refine z_iconst dX12_comes_4 cI_0 ?_
  refine z_iload dX12_comes_5 rfl ?_
  refine z_i2l dX12_comes_7 rfl ?_
  obtain ⟨q1, h⟩ := zgd_elim h
  refine z_last h0.2.2.2.2.2.2.2.2.2.2.2.2.2.2.2.2.2.2.2.2.2.2.2.2.1 (zin_ok q1) dX12_comes_8 ?_
  obtain ⟨S2, eS2, h⟩ := zlet_elim h
  refine z_tS eS2 ?_
  refine z_aload_n dX12_comes_9 rfl ?_
  refine z_gA (zF.x zfX12_80) h0.1 dX12_comes_10 ?_
  refine z_iconst dX12_comes_13 cI_1 ?_
  refine z_iload_n dX12_comes_14 rfl ?_
  obtain ⟨r3, hc4, h⟩ := zb1_elim h
  refine z_callS (As := [.int x2]) zkX12_357 zsX12_bits (tX12_bits T x2 S2  r3 hc4) rfl rfl (Nat.le_of_ble_eq_true rfl) (by decide) ⟨Nat.le_refl _, Nat.le_refl _⟩ ⟨Nat.le_refl _, Nat.le_refl _⟩ dX12_comes_15 ?_
  refine z_i2l dX12_comes_18 rfl ?_
  obtain ⟨q5, h⟩ := zgd_elim h
  refine z_last h0.2.2.2.2.2.2.2.2.2.2.2.2.2.2.2.2.2.2.2.2.2.2.2.2.1 (zin_ok q5) dX12_comes_19 ?_
  obtain ⟨S6, eS6, h⟩ := zlet_elim h
  refine z_tS eS6 ?_
  refine z_aload_n dX12_comes_20 rfl ?_
  refine z_gA (zF.x zfX12_80) h0.1 dX12_comes_21 ?_
  refine z_iconst dX12_comes_24 cI_2 ?_
  refine z_iload_n dX12_comes_25 rfl ?_
  obtain ⟨r7, hc8, h⟩ := zb1_elim h
  refine z_callS (As := [.int x3]) zkX12_357 zsX12_bits (tX12_bits T x3 S6  r7 hc8) rfl rfl (Nat.le_of_ble_eq_true rfl) (by decide) ⟨Nat.le_refl _, Nat.le_refl _⟩ ⟨Nat.le_refl _, Nat.le_refl _⟩ dX12_comes_26 ?_
  refine z_i2l dX12_comes_29 rfl ?_
  obtain ⟨q9, h⟩ := zgd_elim h
  refine z_last h0.2.2.2.2.2.2.2.2.2.2.2.2.2.2.2.2.2.2.2.2.2.2.2.2.1 (zin_ok q9) dX12_comes_30 ?_
  obtain ⟨S10, eS10, h⟩ := zlet_elim h
  refine z_tS eS10 ?_
  refine z_iconst dX12_comes_31 cI_0 ?_
  refine z_istore dX12_comes_32 rfl (by decide) rfl ?_
  refine z_iconst dX12_comes_34 cI_0 ?_
  refine z_istore dX12_comes_35 rfl (by decide) rfl ?_
  obtain ⟨e31, hl32, h⟩ := zb1_elim h
  obtain ⟨nf33, hl32⟩ := lp_some hl32
  refine z_mask [true, true, true, false, false, true, true, false] rfl (tX12_comes_l37 T k0 x1 x2 h0 nf33 (0, 0, S10) e31 hl32 (fun e_ q => ?_))
  · cases q
    refine z_iload dX12_comes_153 rfl ?_
    cases h
    exact z_iret rfl dX12_comes_155
