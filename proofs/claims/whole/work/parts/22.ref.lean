/-! X12_stands -/
noncomputable def fX12_stands_l5 (T : zT) (k0 : Nat) (i1 : Nat) (S : zS) (x2 : Int32) : Option (Int32 ⊕ Int32) :=
  if (S.1 k0 1) ≤ x2 then some (.inr x2) else zgd (zin x2 400) (if (S.1 (zr T k0 11) (x2 : Int32).toNatClampNeg) < 97 then some (.inr x2) else zgd (zin x2 400) (if 122 < (S.1 (zr T k0 11) (x2 : Int32).toNatClampNeg) then some (.inr x2) else zlet (x2 + 1) fun u7 => some (.inl u7)))
noncomputable def fX12_stands_b102 (T : zT) (k0 : Nat) (i1 : Nat) (x4 : Int32) (s0 : Int32) (S : zS) : Option ((Int32 × Int32) ⊕ Int32) :=
  zlet (x4 + 1) fun u15 => some (.inl (s0, u15))
noncomputable def fX12_stands_l63 (T : zT) (k0 : Nat) (i1 : Nat) (S : zS) (x3 : Int32) (x4 : Int32) : Option ((Int32 × Int32) ⊕ Int32) :=
  if (zsL i1) ≤ x4 then some (.inr x3) else if x3 = 0 then some (.inr x3) else zgd (zin ((S.1 k0 2) + x4) 400) (zgd (zin x4 (zsN i1)) (if (S.1 (zr T k0 11) (((S.1 k0 2) + x4) : Int32).toNatClampNeg) = (zsC i1 (x4 : Int32).toNatClampNeg) then fX12_stands_b102 T k0 i1 x4 1 S else fX12_stands_b102 T k0 i1 x4 0 S))
noncomputable def fX12_stands_b109 (T : zT) (x3 : Int32) (S : zS) : Option Int32 :=
  zgd (zbl x3) (some x3)
noncomputable def fX12_stands_b59 (T : zT) (k0 : Nat) (i1 : Nat) (s0 : Int32) (S : zS) : Option Int32 :=
  zb1 (lp (fun a => fX12_stands_l63 T k0 i1 S a.1 a.2) (s0, 0)) fun e16 => fX12_stands_b109 T e16 S
noncomputable def fX12_stands_b41 (T : zT) (k0 : Nat) (i1 : Nat) (x2 : Int32) (S : zS) : Option Int32 :=
  if (x2 - (S.1 k0 2)) = (zsL i1) then fX12_stands_b59 T k0 i1 1 S else fX12_stands_b59 T k0 i1 0 S
noncomputable def fX12_stands (T : zT) (k0 : Nat) (i1 : Nat) (S : zS) : Option Int32 :=
  zlet (S.1 k0 2) fun u1 => zb1 (lp (fun a => fX12_stands_l5 T k0 i1 S a) u1) fun e8 => fX12_stands_b41 T k0 i1 e8 S
set_option maxHeartbeats 4000000 in
set_option maxRecDepth 100000 in
theorem tX12_stands_l5b (T : zT) (k0 : Nat) (i1 : Nat) (S : zS) (x2 : Int32) (h0 : iX12 T k0) (h1 : i1 < 27) {g : zG} {v : Option Value} {S' : zS} (r : Int32 ⊕ Int32) (h : fX12_stands_l5 T k0 i1 S x2 = some r) (K1 : ∀ a : Int32, r = .inl a → zg g 4 mX12_stands T 5 [some (.ref k0), some (.ref (10002 + i1)), some (.int a), none, none] [] T S v T S') (K2_0 : ∀ e : Int32, r = .inr e → zg g 4 mX12_stands T 41 [some (.ref k0), some (.ref (10002 + i1)), some (.int e), none, none] [] T S v T S') : zg g 4 mX12_stands T 5 [some (.ref k0), some (.ref (10002 + i1)), some (.int x2), none, none] [] T S v T S' := by
  unfold fX12_stands_l5 at h
  refine z_iload_n dX12_stands_5 rfl ?_
  refine z_aload_n dX12_stands_6 rfl ?_
  refine z_gI (zF.x zfX12_147) h0.1 dX12_stands_7 ?_
  refine z_icmp_ge (tgt := 41) dX12_stands_10 (by decide) (fun q2 => ?_) (fun q2 => ?_)
  · rw [if_pos q2] at h
    cases h
    exact z_mask [true, true, true, false, false] rfl (K2_0 _ rfl)
  · rw [if_neg q2] at h
    refine z_aload_n dX12_stands_13 rfl ?_
    refine z_gA (zF.x zfX12_9) h0.1 dX12_stands_14 ?_
    refine z_iload_n dX12_stands_17 rfl ?_
    obtain ⟨q3, h⟩ := zgd_elim h
    refine z_bald h0.2.1 (zin_ok q3) dX12_stands_18 ?_
    refine z_bipush dX12_stands_19 cB_97 ?_
    refine z_icmp_lt (tgt := 41) dX12_stands_21 (by decide) (fun q4 => ?_) (fun q4 => ?_)
    · rw [if_pos q4] at h
      cases h
      exact z_mask [true, true, true, false, false] rfl (K2_0 _ rfl)
    · rw [if_neg q4] at h
      refine z_aload_n dX12_stands_24 rfl ?_
      refine z_gA (zF.x zfX12_9) h0.1 dX12_stands_25 ?_
      refine z_iload_n dX12_stands_28 rfl ?_
      obtain ⟨q5, h⟩ := zgd_elim h
      refine z_bald h0.2.1 (zin_ok q5) dX12_stands_29 ?_
      refine z_bipush dX12_stands_30 cB_122 ?_
      refine z_icmp_gt (tgt := 41) dX12_stands_32 (by decide) (fun q6 => ?_) (fun q6 => ?_)
      · rw [if_pos q6] at h
        cases h
        exact z_mask [true, true, true, false, false] rfl (K2_0 _ rfl)
      · rw [if_neg q6] at h
        obtain ⟨u7, eu7, h⟩ := zlet_elim h
        refine z_iinc (r := u7) dX12_stands_35 rfl (by rw [eu7, cI_1]) rfl (by decide) rfl ?_
        refine z_goto (tgt := 5) dX12_stands_38 (by decide) ?_
        cases h
        exact z_mask [true, true, true, false, false] rfl (K1 _ rfl)
set_option maxHeartbeats 4000000 in
set_option maxRecDepth 100000 in
theorem tX12_stands_l5 (T : zT) (k0 : Nat) (i1 : Nat) (S : zS) (h0 : iX12 T k0) (h1 : i1 < 27) {g : zG} {v : Option Value} {S' : zS} : ∀ (n : Nat) (a : Int32) (e : Int32), lpn (fun a => fX12_stands_l5 T k0 i1 S a) n a = some e → (∀ e1 : Int32, e = e1 → zg g 4 mX12_stands T 41 [some (.ref k0), some (.ref (10002 + i1)), some (.int e1), none, none] [] T S v T S') → zg g 4 mX12_stands T 5 [some (.ref k0), some (.ref (10002 + i1)), some (.int a), none, none] [] T S v T S' := by
  intro n
  induction n with
  | zero =>
    intro a e h
    cases h
  | succ n ih =>
    intro a e h k0_
    rcases lpn_succ h with ⟨a1, ha_, hb_⟩ | ha_
    · exact tX12_stands_l5b T k0 i1 S a h0 h1 _ ha_ (fun a2 q => by cases q; exact ih a1 e hb_ k0_) (fun e1 q => by cases q)
    · exact tX12_stands_l5b T k0 i1 S a h0 h1 _ ha_ (fun a2 q => by cases q) (fun e1 q => by cases q; exact k0_ _ rfl)
set_option maxHeartbeats 4000000 in
set_option maxRecDepth 100000 in
theorem tX12_stands_b102 (T : zT) (k0 : Nat) (i1 : Nat) (x4 : Int32) (s0 : Int32) (S : zS) (h0 : iX12 T k0) (h1 : i1 < 27) {g : zG} {v : Option Value} {S' : zS} (r : ((Int32 × Int32) ⊕ Int32)) (h : fX12_stands_b102 T k0 i1 x4 s0 S = some r) (K1 : ∀ a : (Int32 × Int32), r = .inl a → zg g 4 mX12_stands T 63 [some (.ref k0), some (.ref (10002 + i1)), none, some (.int a.1), some (.int a.2)] [] T S v T S') (K2_0 : ∀ e : Int32, r = .inr e → zg g 4 mX12_stands T 109 [none, none, none, some (.int e), none] [] T S v T S') : zg g 4 mX12_stands T 102 [some (.ref k0), some (.ref (10002 + i1)), none, none, some (.int x4)] [.int s0] T S v T S' := by
  unfold fX12_stands_b102 at h
  refine z_istore_n dX12_stands_102 rfl (by decide) rfl ?_
  obtain ⟨u15, eu15, h⟩ := zlet_elim h
  refine z_iinc (r := u15) dX12_stands_103 rfl (by rw [eu15, cI_1]) rfl (by decide) rfl ?_
  refine z_goto (tgt := 63) dX12_stands_106 (by decide) ?_
  cases h
  exact z_mask [true, true, false, true, true] rfl (K1 _ rfl)
set_option maxHeartbeats 4000000 in
set_option maxRecDepth 100000 in
theorem tX12_stands_l63b (T : zT) (k0 : Nat) (i1 : Nat) (S : zS) (x3 : Int32) (x4 : Int32) (h0 : iX12 T k0) (h1 : i1 < 27) {g : zG} {v : Option Value} {S' : zS} (r : (Int32 × Int32) ⊕ Int32) (h : fX12_stands_l63 T k0 i1 S x3 x4 = some r) (K1 : ∀ a : (Int32 × Int32), r = .inl a → zg g 4 mX12_stands T 63 [some (.ref k0), some (.ref (10002 + i1)), none, some (.int a.1), some (.int a.2)] [] T S v T S') (K2_0 : ∀ e : Int32, r = .inr e → zg g 4 mX12_stands T 109 [none, none, none, some (.int e), none] [] T S v T S') : zg g 4 mX12_stands T 63 [some (.ref k0), some (.ref (10002 + i1)), none, some (.int x3), some (.int x4)] [] T S v T S' := by
  unfold fX12_stands_l63 at h
  refine z_iload dX12_stands_63 rfl ?_
  refine z_aload_n dX12_stands_65 rfl ?_
  refine z_callW (As := []) rfl zkX12_204 ziJ0_length_8abf5 zqJ0_length_8abf5 h1 (tJ0_length T i1 S h1) rfl rfl (Nat.le_of_ble_eq_true rfl) (by decide) ⟨Nat.le_refl _, Nat.le_refl _⟩ dX12_stands_66 ?_
  refine z_icmp_ge (tgt := 109) dX12_stands_69 (by decide) (fun q10 => ?_) (fun q10 => ?_)
  · rw [if_pos q10] at h
    cases h
    exact z_mask [false, false, false, true, false] rfl (K2_0 _ rfl)
  · rw [if_neg q10] at h
    refine z_iload_n dX12_stands_72 rfl ?_
    refine z_if_eq (tgt := 109) dX12_stands_73 (by decide) (fun q11 => ?_) (fun q11 => ?_)
    · rw [if_pos q11] at h
      cases h
      exact z_mask [false, false, false, true, false] rfl (K2_0 _ rfl)
    · rw [if_neg q11] at h
      refine z_aload_n dX12_stands_76 rfl ?_
      refine z_gA (zF.x zfX12_9) h0.1 dX12_stands_77 ?_
      refine z_aload_n dX12_stands_80 rfl ?_
      refine z_gI (zF.x zfX12_190) h0.1 dX12_stands_81 ?_
      refine z_iload dX12_stands_84 rfl ?_
      refine z_iadd dX12_stands_86 rfl ?_
      obtain ⟨q12, h⟩ := zgd_elim h
      refine z_bald h0.2.1 (zin_ok q12) dX12_stands_87 ?_
      refine z_aload_n dX12_stands_88 rfl ?_
      refine z_iload dX12_stands_89 rfl ?_
      obtain ⟨q13, h⟩ := zgd_elim h
      refine z_callW (As := [.int x4]) rfl zkX12_209 ziJ0_charAt_5068e zqJ0_charAt_5068e h1 (tJ0_charAt T i1 x4 S h1 (zin_ok q13)) rfl rfl (Nat.le_of_ble_eq_true rfl) (by decide) ⟨Nat.le_refl _, Nat.le_refl _⟩ dX12_stands_91 ?_
      refine z_icmp_ne (tgt := 101) dX12_stands_94 (by decide) (fun q14 => ?_) (fun q14 => ?_)
      · rw [if_neg q14] at h
        refine z_iconst dX12_stands_101 cI_0 ?_
        exact z_mask [true, true, false, false, true] rfl (tX12_stands_b102 T k0 i1 x4 0 S h0 h1 r h K1 K2_0)
      · rw [if_pos q14] at h
        refine z_iconst dX12_stands_97 cI_1 ?_
        refine z_goto (tgt := 102) dX12_stands_98 (by decide) ?_
        exact z_mask [true, true, false, false, true] rfl (tX12_stands_b102 T k0 i1 x4 1 S h0 h1 r h K1 K2_0)
set_option maxHeartbeats 4000000 in
set_option maxRecDepth 100000 in
theorem tX12_stands_l63 (T : zT) (k0 : Nat) (i1 : Nat) (S : zS) (h0 : iX12 T k0) (h1 : i1 < 27) {g : zG} {v : Option Value} {S' : zS} : ∀ (n : Nat) (a : (Int32 × Int32)) (e : Int32), lpn (fun a => fX12_stands_l63 T k0 i1 S a.1 a.2) n a = some e → (∀ e1 : Int32, e = e1 → zg g 4 mX12_stands T 109 [none, none, none, some (.int e1), none] [] T S v T S') → zg g 4 mX12_stands T 63 [some (.ref k0), some (.ref (10002 + i1)), none, some (.int a.1), some (.int a.2)] [] T S v T S' := by
  intro n
  induction n with
  | zero =>
    intro a e h
    cases h
  | succ n ih =>
    intro a e h k0_
    rcases lpn_succ h with ⟨a1, ha_, hb_⟩ | ha_
    · exact tX12_stands_l63b T k0 i1 S a.1 a.2 h0 h1 _ ha_ (fun a2 q => by cases q; exact ih a1 e hb_ k0_) (fun e1 q => by cases q)
    · exact tX12_stands_l63b T k0 i1 S a.1 a.2 h0 h1 _ ha_ (fun a2 q => by cases q) (fun e1 q => by cases q; exact k0_ _ rfl)
set_option maxHeartbeats 4000000 in
set_option maxRecDepth 100000 in
theorem tX12_stands_b109 (T : zT) (x3 : Int32) (S : zS)  {g : zG} (r : Int32) (h : fX12_stands_b109 T x3 S = some r)  : zg g 4 mX12_stands T 109 [none, none, none, some (.int x3), none] [] T S (some (.int r)) T S := by
  unfold fX12_stands_b109 at h
  refine z_iload_n dX12_stands_109 rfl ?_
  obtain ⟨q17, h⟩ := zgd_elim h
  cases h
  exact z_zret rfl (zbl_ok q17) dX12_stands_110
set_option maxHeartbeats 4000000 in
set_option maxRecDepth 100000 in
theorem tX12_stands_b59 (T : zT) (k0 : Nat) (i1 : Nat) (s0 : Int32) (S : zS) (h0 : iX12 T k0) (h1 : i1 < 27) {g : zG} (r : Int32) (h : fX12_stands_b59 T k0 i1 s0 S = some r)  : zg g 4 mX12_stands T 59 [some (.ref k0), some (.ref (10002 + i1)), none, none, none] [.int s0] T S (some (.int r)) T S := by
  unfold fX12_stands_b59 at h
  refine z_istore_n dX12_stands_59 rfl (by decide) rfl ?_
  refine z_iconst dX12_stands_60 cI_0 ?_
  refine z_istore dX12_stands_61 rfl (by decide) rfl ?_
  obtain ⟨e16, hl18, h⟩ := zb1_elim h
  obtain ⟨nf19, hl18⟩ := lp_some hl18
  refine z_mask [true, true, false, true, true] rfl (tX12_stands_l63 T k0 i1 S h0 h1 nf19 (s0, 0) e16 hl18 (fun e_ q => ?_))
  · cases q
    exact z_mask [false, false, false, true, false] rfl (tX12_stands_b109 T e16 S  r h)
set_option maxHeartbeats 4000000 in
set_option maxRecDepth 100000 in
theorem tX12_stands_b41 (T : zT) (k0 : Nat) (i1 : Nat) (x2 : Int32) (S : zS) (h0 : iX12 T k0) (h1 : i1 < 27) {g : zG} (r : Int32) (h : fX12_stands_b41 T k0 i1 x2 S = some r)  : zg g 4 mX12_stands T 41 [some (.ref k0), some (.ref (10002 + i1)), some (.int x2), none, none] [] T S (some (.int r)) T S := by
  unfold fX12_stands_b41 at h
  refine z_iload_n dX12_stands_41 rfl ?_
  refine z_aload_n dX12_stands_42 rfl ?_
  refine z_gI (zF.x zfX12_190) h0.1 dX12_stands_43 ?_
  refine z_isub dX12_stands_46 rfl ?_
  refine z_aload_n dX12_stands_47 rfl ?_
  refine z_callW (As := []) rfl zkX12_204 ziJ0_length_8abf5 zqJ0_length_8abf5 h1 (tJ0_length T i1 S h1) rfl rfl (Nat.le_of_ble_eq_true rfl) (by decide) ⟨Nat.le_refl _, Nat.le_refl _⟩ dX12_stands_48 ?_
  refine z_icmp_ne (tgt := 58) dX12_stands_51 (by decide) (fun q9 => ?_) (fun q9 => ?_)
  · rw [if_neg q9] at h
    refine z_iconst dX12_stands_58 cI_0 ?_
    exact z_mask [true, true, false, false, false] rfl (tX12_stands_b59 T k0 i1 0 S h0 h1 r h)
  · rw [if_pos q9] at h
    refine z_iconst dX12_stands_54 cI_1 ?_
    refine z_goto (tgt := 59) dX12_stands_55 (by decide) ?_
    exact z_mask [true, true, false, false, false] rfl (tX12_stands_b59 T k0 i1 1 S h0 h1 r h)
set_option maxHeartbeats 4000000 in
set_option maxRecDepth 100000 in
theorem tX12_stands (T : zT) (k0 : Nat) (i1 : Nat) (S : zS) (h0 : iX12 T k0) (h1 : i1 < 27) (r : Int32) (h : fX12_stands T k0 i1 S = some r) : zGM 4 mX12_stands [.ref k0, .ref (10002 + i1)] T S (some (.int r)) T S := by
  refine zGM_of zpnX12 rfl (Nat.le_of_ble_eq_true rfl) (fun g => ?_)
  show zg g 4 mX12_stands T 0 [some (.ref k0), some (.ref (10002 + i1)), none, none, none] [] T S (some (.int r)) T S
  unfold fX12_stands at h
  refine z_aload_n dX12_stands_0 rfl ?_
  refine z_gI (zF.x zfX12_190) h0.1 dX12_stands_1 ?_
  obtain ⟨u1, eu1, h⟩ := zlet_elim h
  refine z_ti eu1 ?_
  refine z_istore_n dX12_stands_4 rfl (by decide) rfl ?_
  obtain ⟨e8, hl20, h⟩ := zb1_elim h
  obtain ⟨nf21, hl20⟩ := lp_some hl20
  refine z_mask [true, true, true, false, false] rfl (tX12_stands_l5 T k0 i1 S h0 h1 nf21 u1 e8 hl20 (fun e_ q => ?_))
  · cases q
    exact z_mask [true, true, true, false, false] rfl (tX12_stands_b41 T k0 i1 e8 S h0 h1 r h)
/-! X12_extra -/
noncomputable def fX12_extra_b124 (T : zT) (s0 : Int32) (s1 : Int32) (s2 : Nat) (m2 : Nat) (S : zS) : Option (Unit × zS) :=
  zgd (zin s1 m2) (zlet (zI S s2 (s1 : Int32).toNatClampNeg s0) fun S24 => some ((), S24))
noncomputable def fX12_extra_b103 (T : zT) (k0 : Nat) (x1 : Int32) (x2 : Int32) (x3 : Int32) (s0 : Int32) (s1 : Int32) (s2 : Nat) (m2 : Nat) (S : zS) : Option (Unit × zS) :=
  zgd (zin s1 m2) (zlet (zI S s2 (s1 : Int32).toNatClampNeg s0) fun S20 => if x2 = 3 then fX12_extra_b124 T x3 x1 (zr T k0 28) 16 S20 else zgd (zin x1 16) (fX12_extra_b124 T (S20.1 (zr T k0 28) (x1 : Int32).toNatClampNeg) x1 (zr T k0 28) 16 S20))
noncomputable def fX12_extra_b82 (T : zT) (k0 : Nat) (x1 : Int32) (x2 : Int32) (x3 : Int32) (s0 : Int32) (s1 : Int32) (s2 : Nat) (m2 : Nat) (S : zS) : Option (Unit × zS) :=
  zgd (zin s1 m2) (zlet (zI S s2 (s1 : Int32).toNatClampNeg s0) fun S16 => if x2 = 2 then fX12_extra_b103 T k0 x1 x2 x3 x3 x1 (zr T k0 27) 16 S16 else zgd (zin x1 16) (fX12_extra_b103 T k0 x1 x2 x3 (S16.1 (zr T k0 27) (x1 : Int32).toNatClampNeg) x1 (zr T k0 27) 16 S16))
noncomputable def fX12_extra_b61 (T : zT) (k0 : Nat) (x1 : Int32) (x2 : Int32) (x3 : Int32) (s0 : Int32) (s1 : Int32) (s2 : Nat) (m2 : Nat) (S : zS) : Option (Unit × zS) :=
  zgd (zin s1 m2) (zlet (zI S s2 (s1 : Int32).toNatClampNeg s0) fun S12 => if x2 = 1 then fX12_extra_b82 T k0 x1 x2 x3 x3 x1 (zr T k0 26) 16 S12 else zgd (zin x1 16) (fX12_extra_b82 T k0 x1 x2 x3 (S12.1 (zr T k0 26) (x1 : Int32).toNatClampNeg) x1 (zr T k0 26) 16 S12))
noncomputable def fX12_extra_b38 (T : zT) (k0 : Nat) (x1 : Int32) (x2 : Int32) (s0 : Int32) (s1 : Int32) (s2 : Nat) (S : zS) : Option (Unit × zS) :=
  zb (fX12_amount T s2 s1 s0 S) fun r6 S8 => if x2 = 0 then fX12_extra_b61 T k0 x1 x2 r6 r6 x1 (zr T k0 25) 16 S8 else zgd (zin x1 16) (fX12_extra_b61 T k0 x1 x2 r6 (S8.1 (zr T k0 25) (x1 : Int32).toNatClampNeg) x1 (zr T k0 25) 16 S8)
noncomputable def fX12_extra_b26 (T : zT) (k0 : Nat) (x1 : Int32) (x2 : Int32) (s0 : Int32) (s1 : Nat) (S : zS) : Option (Unit × zS) :=
  if x2 = 0 then fX12_extra_b38 T k0 x1 x2 60 s0 s1 S else fX12_extra_b38 T k0 x1 x2 9999 s0 s1 S
noncomputable def fX12_extra (T : zT) (k0 : Nat) (x1 : Int32) (x2 : Int32) (S : zS) : Option (Unit × zS) :=
  zb1 (fX12_extraOf T x2 S) fun r1 => zlet (zI S k0 2 ((S.1 k0 2) + (zsL r1))) fun S3 => if x2 = 0 then fX12_extra_b26 T k0 x1 x2 1 k0 S3 else fX12_extra_b26 T k0 x1 x2 0 k0 S3
set_option maxHeartbeats 4000000 in
set_option maxRecDepth 100000 in
theorem tX12_extra_b124 (T : zT) (s0 : Int32) (s1 : Int32) (s2 : Nat) (m2 : Nat) (S : zS) (g2 : zL T s2 20 m2) {g : zG} (r : (Unit × zS)) (h : fX12_extra_b124 T s0 s1 s2 m2 S = some r)  : zg g 4 mX12_extra T 124 [none, none, none, none] [.int s0, .int s1, .ref s2] T S none T r.2 := by
  unfold fX12_extra_b124 at h
  obtain ⟨q23, h⟩ := zgd_elim h
  refine z_iast g2 (zin_ok q23) dX12_extra_124 ?_
  obtain ⟨S24, eS24, h⟩ := zlet_elim h
  refine z_tS eS24 ?_
  cases h
  exact z_vret rfl dX12_extra_125
set_option maxHeartbeats 4000000 in
set_option maxRecDepth 100000 in
theorem tX12_extra_b103 (T : zT) (k0 : Nat) (x1 : Int32) (x2 : Int32) (x3 : Int32) (s0 : Int32) (s1 : Int32) (s2 : Nat) (m2 : Nat) (S : zS) (h0 : iX12 T k0) (g2 : zL T s2 20 m2) {g : zG} (r : (Unit × zS)) (h : fX12_extra_b103 T k0 x1 x2 x3 s0 s1 s2 m2 S = some r)  : zg g 4 mX12_extra T 103 [some (.ref k0), some (.int x1), some (.int x2), some (.int x3)] [.int s0, .int s1, .ref s2] T S none T r.2 := by
  unfold fX12_extra_b103 at h
  obtain ⟨q19, h⟩ := zgd_elim h
  refine z_iast g2 (zin_ok q19) dX12_extra_103 ?_
  obtain ⟨S20, eS20, h⟩ := zlet_elim h
  refine z_tS eS20 ?_
  refine z_aload_n dX12_extra_104 rfl ?_
  refine z_gA (zF.x zfX12_62) h0.1 dX12_extra_105 ?_
  refine z_iload_n dX12_extra_108 rfl ?_
  refine z_iload_n dX12_extra_109 rfl ?_
  refine z_iconst dX12_extra_110 cI_3 ?_
  refine z_icmp_ne (tgt := 118) dX12_extra_111 (by decide) (fun q21 => ?_) (fun q21 => ?_)
  · rw [if_neg q21] at h
    refine z_aload_n dX12_extra_118 rfl ?_
    refine z_gA (zF.x zfX12_62) h0.1 dX12_extra_119 ?_
    refine z_iload_n dX12_extra_122 rfl ?_
    obtain ⟨q22, h⟩ := zgd_elim h
    refine z_iald h0.2.2.2.2.2.2.2.2.2.2.2.2.2.2.2.2.2.2.1 (zin_ok q22) dX12_extra_123 ?_
    exact z_mask [false, false, false, false] rfl (tX12_extra_b124 T (S20.1 (zr T k0 28) (x1 : Int32).toNatClampNeg) x1 (zr T k0 28) 16 S20 h0.2.2.2.2.2.2.2.2.2.2.2.2.2.2.2.2.2.2.1 r h)
  · rw [if_pos q21] at h
    refine z_iload_n dX12_extra_114 rfl ?_
    refine z_goto (tgt := 124) dX12_extra_115 (by decide) ?_
    exact z_mask [false, false, false, false] rfl (tX12_extra_b124 T x3 x1 (zr T k0 28) 16 S20 h0.2.2.2.2.2.2.2.2.2.2.2.2.2.2.2.2.2.2.1 r h)
set_option maxHeartbeats 4000000 in
set_option maxRecDepth 100000 in
theorem tX12_extra_b82 (T : zT) (k0 : Nat) (x1 : Int32) (x2 : Int32) (x3 : Int32) (s0 : Int32) (s1 : Int32) (s2 : Nat) (m2 : Nat) (S : zS) (h0 : iX12 T k0) (g2 : zL T s2 20 m2) {g : zG} (r : (Unit × zS)) (h : fX12_extra_b82 T k0 x1 x2 x3 s0 s1 s2 m2 S = some r)  : zg g 4 mX12_extra T 82 [some (.ref k0), some (.int x1), some (.int x2), some (.int x3)] [.int s0, .int s1, .ref s2] T S none T r.2 := by
  unfold fX12_extra_b82 at h
  obtain ⟨q15, h⟩ := zgd_elim h
  refine z_iast g2 (zin_ok q15) dX12_extra_82 ?_
  obtain ⟨S16, eS16, h⟩ := zlet_elim h
  refine z_tS eS16 ?_
  refine z_aload_n dX12_extra_83 rfl ?_
  refine z_gA (zF.x zfX12_59) h0.1 dX12_extra_84 ?_
  refine z_iload_n dX12_extra_87 rfl ?_
  refine z_iload_n dX12_extra_88 rfl ?_
  refine z_iconst dX12_extra_89 cI_2 ?_
  refine z_icmp_ne (tgt := 97) dX12_extra_90 (by decide) (fun q17 => ?_) (fun q17 => ?_)
  · rw [if_neg q17] at h
    refine z_aload_n dX12_extra_97 rfl ?_
    refine z_gA (zF.x zfX12_59) h0.1 dX12_extra_98 ?_
    refine z_iload_n dX12_extra_101 rfl ?_
    obtain ⟨q18, h⟩ := zgd_elim h
    refine z_iald h0.2.2.2.2.2.2.2.2.2.2.2.2.2.2.2.2.2.1 (zin_ok q18) dX12_extra_102 ?_
    exact z_mask [true, true, true, true] rfl (tX12_extra_b103 T k0 x1 x2 x3 (S16.1 (zr T k0 27) (x1 : Int32).toNatClampNeg) x1 (zr T k0 27) 16 S16 h0 h0.2.2.2.2.2.2.2.2.2.2.2.2.2.2.2.2.2.1 r h)
  · rw [if_pos q17] at h
    refine z_iload_n dX12_extra_93 rfl ?_
    refine z_goto (tgt := 103) dX12_extra_94 (by decide) ?_
    exact z_mask [true, true, true, true] rfl (tX12_extra_b103 T k0 x1 x2 x3 x3 x1 (zr T k0 27) 16 S16 h0 h0.2.2.2.2.2.2.2.2.2.2.2.2.2.2.2.2.2.1 r h)
set_option maxHeartbeats 4000000 in
set_option maxRecDepth 100000 in
theorem tX12_extra_b61 (T : zT) (k0 : Nat) (x1 : Int32) (x2 : Int32) (x3 : Int32) (s0 : Int32) (s1 : Int32) (s2 : Nat) (m2 : Nat) (S : zS) (h0 : iX12 T k0) (g2 : zL T s2 20 m2) {g : zG} (r : (Unit × zS)) (h : fX12_extra_b61 T k0 x1 x2 x3 s0 s1 s2 m2 S = some r)  : zg g 4 mX12_extra T 61 [some (.ref k0), some (.int x1), some (.int x2), some (.int x3)] [.int s0, .int s1, .ref s2] T S none T r.2 := by
  unfold fX12_extra_b61 at h
  obtain ⟨q11, h⟩ := zgd_elim h
  refine z_iast g2 (zin_ok q11) dX12_extra_61 ?_
  obtain ⟨S12, eS12, h⟩ := zlet_elim h
  refine z_tS eS12 ?_
  refine z_aload_n dX12_extra_62 rfl ?_
  refine z_gA (zF.x zfX12_56) h0.1 dX12_extra_63 ?_
  refine z_iload_n dX12_extra_66 rfl ?_
  refine z_iload_n dX12_extra_67 rfl ?_
  refine z_iconst dX12_extra_68 cI_1 ?_
  refine z_icmp_ne (tgt := 76) dX12_extra_69 (by decide) (fun q13 => ?_) (fun q13 => ?_)
  · rw [if_neg q13] at h
    refine z_aload_n dX12_extra_76 rfl ?_
    refine z_gA (zF.x zfX12_56) h0.1 dX12_extra_77 ?_
    refine z_iload_n dX12_extra_80 rfl ?_
    obtain ⟨q14, h⟩ := zgd_elim h
    refine z_iald h0.2.2.2.2.2.2.2.2.2.2.2.2.2.2.2.2.1 (zin_ok q14) dX12_extra_81 ?_
    exact z_mask [true, true, true, true] rfl (tX12_extra_b82 T k0 x1 x2 x3 (S12.1 (zr T k0 26) (x1 : Int32).toNatClampNeg) x1 (zr T k0 26) 16 S12 h0 h0.2.2.2.2.2.2.2.2.2.2.2.2.2.2.2.2.1 r h)
  · rw [if_pos q13] at h
    refine z_iload_n dX12_extra_72 rfl ?_
    refine z_goto (tgt := 82) dX12_extra_73 (by decide) ?_
    exact z_mask [true, true, true, true] rfl (tX12_extra_b82 T k0 x1 x2 x3 x3 x1 (zr T k0 26) 16 S12 h0 h0.2.2.2.2.2.2.2.2.2.2.2.2.2.2.2.2.1 r h)
set_option maxHeartbeats 4000000 in
set_option maxRecDepth 100000 in
theorem tX12_extra_b38 (T : zT) (k0 : Nat) (x1 : Int32) (x2 : Int32) (s0 : Int32) (s1 : Int32) (s2 : Nat) (S : zS) (h0 : iX12 T k0) (g2 : iX12 T s2) {g : zG} (r : (Unit × zS)) (h : fX12_extra_b38 T k0 x1 x2 s0 s1 s2 S = some r)  : zg g 4 mX12_extra T 38 [some (.ref k0), some (.int x1), some (.int x2), none] [.int s0, .int s1, .ref s2] T S none T r.2 := by
  unfold fX12_extra_b38 at h
  obtain ⟨r6, S8, hc7, h⟩ := zb_elim h
  refine z_callV (As := [.int s1, .int s0]) zcX12 zkX12_302 ziX12_amount zqX12_amount g2.1 (tX12_amount T s2 s1 s0 S g2 (r6, S8) hc7) rfl rfl (Nat.le_of_ble_eq_true rfl) (by decide) ⟨Nat.le_refl _, Nat.le_refl _⟩ ⟨Nat.le_refl _, Nat.le_refl _⟩ dX12_extra_38 ?_
  refine z_istore_n dX12_extra_41 rfl (by decide) rfl ?_
  refine z_aload_n dX12_extra_42 rfl ?_
  refine z_gA (zF.x zfX12_53) h0.1 dX12_extra_43 ?_
  refine z_iload_n dX12_extra_46 rfl ?_
  refine z_iload_n dX12_extra_47 rfl ?_
  refine z_if_ne (tgt := 55) dX12_extra_48 (by decide) (fun q9 => ?_) (fun q9 => ?_)
  · rw [if_neg q9] at h
    refine z_aload_n dX12_extra_55 rfl ?_
    refine z_gA (zF.x zfX12_53) h0.1 dX12_extra_56 ?_
    refine z_iload_n dX12_extra_59 rfl ?_
    obtain ⟨q10, h⟩ := zgd_elim h
    refine z_iald h0.2.2.2.2.2.2.2.2.2.2.2.2.2.2.2.1 (zin_ok q10) dX12_extra_60 ?_
    exact z_mask [true, true, true, true] rfl (tX12_extra_b61 T k0 x1 x2 r6 (S8.1 (zr T k0 25) (x1 : Int32).toNatClampNeg) x1 (zr T k0 25) 16 S8 h0 h0.2.2.2.2.2.2.2.2.2.2.2.2.2.2.2.1 r h)
  · rw [if_pos q9] at h
    refine z_iload_n dX12_extra_51 rfl ?_
    refine z_goto (tgt := 61) dX12_extra_52 (by decide) ?_
    exact z_mask [true, true, true, true] rfl (tX12_extra_b61 T k0 x1 x2 r6 r6 x1 (zr T k0 25) 16 S8 h0 h0.2.2.2.2.2.2.2.2.2.2.2.2.2.2.2.1 r h)
set_option maxHeartbeats 4000000 in
set_option maxRecDepth 100000 in
theorem tX12_extra_b26 (T : zT) (k0 : Nat) (x1 : Int32) (x2 : Int32) (s0 : Int32) (s1 : Nat) (S : zS) (h0 : iX12 T k0) (g1 : iX12 T s1) {g : zG} (r : (Unit × zS)) (h : fX12_extra_b26 T k0 x1 x2 s0 s1 S = some r)  : zg g 4 mX12_extra T 26 [some (.ref k0), some (.int x1), some (.int x2), none] [.int s0, .ref s1] T S none T r.2 := by
  unfold fX12_extra_b26 at h
  refine z_iload_n dX12_extra_26 rfl ?_
  refine z_if_ne (tgt := 35) dX12_extra_27 (by decide) (fun q5 => ?_) (fun q5 => ?_)
  · rw [if_neg q5] at h
    refine z_sipush dX12_extra_35 cS_9999 ?_
    exact z_mask [true, true, true, false] rfl (tX12_extra_b38 T k0 x1 x2 9999 s0 s1 S h0 g1 r h)
  · rw [if_pos q5] at h
    refine z_bipush dX12_extra_30 cB_60 ?_
    refine z_goto (tgt := 38) dX12_extra_32 (by decide) ?_
    exact z_mask [true, true, true, false] rfl (tX12_extra_b38 T k0 x1 x2 60 s0 s1 S h0 g1 r h)
set_option maxHeartbeats 4000000 in
set_option maxRecDepth 100000 in
theorem tX12_extra (T : zT) (k0 : Nat) (x1 : Int32) (x2 : Int32) (S : zS) (h0 : iX12 T k0) (r : Unit × zS) (h : fX12_extra T k0 x1 x2 S = some r) : zGM 4 mX12_extra [.ref k0, .int x1, .int x2] T S none T r.2 := by
  refine zGM_of zpnX12 rfl (Nat.le_of_ble_eq_true rfl) (fun g => ?_)
  show zg g 4 mX12_extra T 0 [some (.ref k0), some (.int x1), some (.int x2), none] [] T S none T r.2
  unfold fX12_extra at h
  refine z_aload_n dX12_extra_0 rfl ?_
  refine z_dup dX12_extra_1 rfl ?_
  refine z_gI (zF.x zfX12_190) h0.1 dX12_extra_2 ?_
  refine z_iload_n dX12_extra_5 rfl ?_
  obtain ⟨r1, hc2, h⟩ := zb1_elim h
  refine z_callS (As := [.int x2]) zkX12_306 zsX12_extraOf (tX12_extraOf T x2 S  r1 hc2) rfl rfl (Nat.le_of_ble_eq_true rfl) (by decide) ⟨Nat.le_refl _, Nat.le_refl _⟩ ⟨Nat.le_refl _, Nat.le_refl _⟩ dX12_extra_6 ?_
  refine z_callW (As := []) rfl zkX12_204 ziJ0_length_8abf5 zqJ0_length_8abf5 (uX12_extraOf T x2 S  r1 hc2) (tJ0_length T r1 S (uX12_extraOf T x2 S  r1 hc2)) rfl rfl (Nat.le_of_ble_eq_true rfl) (by decide) ⟨Nat.le_refl _, Nat.le_refl _⟩ dX12_extra_9 ?_
  refine z_iadd dX12_extra_12 rfl ?_
  refine z_putI zfX12_190 h0.1 dX12_extra_13 ?_
  obtain ⟨S3, eS3, h⟩ := zlet_elim h
  refine z_tS eS3 ?_
  refine z_aload_n dX12_extra_16 rfl ?_
  refine z_iload_n dX12_extra_17 rfl ?_
  refine z_if_ne (tgt := 25) dX12_extra_18 (by decide) (fun q4 => ?_) (fun q4 => ?_)
  · rw [if_neg q4] at h
    refine z_iconst dX12_extra_25 cI_0 ?_
    exact z_mask [true, true, true, false] rfl (tX12_extra_b26 T k0 x1 x2 0 k0 S3 h0 h0 r h)
  · rw [if_pos q4] at h
    refine z_iconst dX12_extra_21 cI_1 ?_
    refine z_goto (tgt := 26) dX12_extra_22 (by decide) ?_
    exact z_mask [true, true, true, false] rfl (tX12_extra_b26 T k0 x1 x2 1 k0 S3 h0 h0 r h)
/-! X12_earned -/
noncomputable def fX12_earned_b52 (T : zT) (s0 : Int32) (S : zS) : Option (Int32 × zS) :=
  some (s0, S)
noncomputable def fX12_earned_b51 (T : zT)  (S : zS) : Option (Int32 × zS) :=
  fX12_earned_b52 T (-1) S
noncomputable def fX12_earned_b35 (T : zT) (k0 : Nat) (x1 : Int32) (x2 : Int32) (s0 : Int32) (s1 : Nat) (S : zS) : Option (Int32 × zS) :=
  zb1 (fX12_all T k0 S) fun r11 => zb (fX12_comes T s1 s0 x1 (r11 &&& (x1 ^^^ (-1))) x2 S) fun r13 S15 => fX12_earned_b52 T r13 S15
noncomputable def fX12_earned (T : zT) (k0 : Nat) (x1 : Int32) (x2 : Int32) (x3 : Int32) (S : zS) : Option (Int32 × zS) :=
  zb1 (fX12_isSet T k0 x1 S) fun r1 => if r1 = 0 then fX12_earned_b51 T  S else zb1 (fX12_isWeek T x2 S) fun r4 => if r4 = 0 then fX12_earned_b51 T  S else zb1 (fX12_in T ((x3 : Int32).toInt64) 0 1 S) fun r7 => if r7 = 0 then fX12_earned_b51 T  S else if x3 = 0 then fX12_earned_b35 T k0 x1 x2 1 k0 S else fX12_earned_b35 T k0 x1 x2 2 k0 S
set_option maxHeartbeats 4000000 in
set_option maxRecDepth 100000 in
theorem tX12_earned_b52 (T : zT) (s0 : Int32) (S : zS)  {g : zG} (r : (Int32 × zS)) (h : fX12_earned_b52 T s0 S = some r)  : zg g 4 mX12_earned T 52 [none, none, none, none] [.int s0] T S (some (.int r.1)) T r.2 := by
  unfold fX12_earned_b52 at h
  cases h
  exact z_iret rfl dX12_earned_52
set_option maxHeartbeats 4000000 in
set_option maxRecDepth 100000 in
theorem tX12_earned_b51 (T : zT)  (S : zS)  {g : zG} (r : (Int32 × zS)) (h : fX12_earned_b51 T  S = some r)  : zg g 4 mX12_earned T 51 [none, none, none, none] [] T S (some (.int r.1)) T r.2 := by
  unfold fX12_earned_b51 at h
  refine z_iconst dX12_earned_51 cI_m1 ?_
  exact z_mask [false, false, false, false] rfl (tX12_earned_b52 T (-1) S  r h)
set_option maxHeartbeats 4000000 in
set_option maxRecDepth 100000 in
theorem tX12_earned_b35 (T : zT) (k0 : Nat) (x1 : Int32) (x2 : Int32) (s0 : Int32) (s1 : Nat) (S : zS) (h0 : iX12 T k0) (g1 : iX12 T s1) {g : zG} (r : (Int32 × zS)) (h : fX12_earned_b35 T k0 x1 x2 s0 s1 S = some r)  : zg g 4 mX12_earned T 35 [some (.ref k0), some (.int x1), some (.int x2), none] [.int s0, .ref s1] T S (some (.int r.1)) T r.2 := by
  unfold fX12_earned_b35 at h
  refine z_iload_n dX12_earned_35 rfl ?_
  refine z_aload_n dX12_earned_36 rfl ?_
  obtain ⟨r11, hc12, h⟩ := zb1_elim h
  refine z_callV (As := []) zcX12 zkX12_354 ziX12_all zqX12_all h0.1 (tX12_all T k0 S h0 r11 hc12) rfl rfl (Nat.le_of_ble_eq_true rfl) (by decide) ⟨Nat.le_refl _, Nat.le_refl _⟩ ⟨Nat.le_refl _, Nat.le_refl _⟩ dX12_earned_37 ?_
  refine z_iload_n dX12_earned_40 rfl ?_
  refine z_iconst dX12_earned_41 cI_m1 ?_
  refine z_ixor dX12_earned_42 rfl ?_
  refine z_iand dX12_earned_43 rfl ?_
  refine z_iload_n dX12_earned_44 rfl ?_
  obtain ⟨r13, S15, hc14, h⟩ := zb_elim h
  refine z_callV (As := [.int s0, .int x1, .int (r11 &&& (x1 ^^^ (-1))), .int x2]) zcX12 zkX12_395 ziX12_comes zqX12_comes g1.1 (tX12_comes T s1 s0 x1 (r11 &&& (x1 ^^^ (-1))) x2 S g1 (r13, S15) hc14) rfl rfl (Nat.le_of_ble_eq_true rfl) (by decide) ⟨Nat.le_refl _, Nat.le_refl _⟩ ⟨Nat.le_refl _, Nat.le_refl _⟩ dX12_earned_45 ?_
  refine z_goto (tgt := 52) dX12_earned_48 (by decide) ?_
  exact z_mask [false, false, false, false] rfl (tX12_earned_b52 T r13 S15  r h)
set_option maxHeartbeats 4000000 in
set_option maxRecDepth 100000 in
theorem tX12_earned (T : zT) (k0 : Nat) (x1 : Int32) (x2 : Int32) (x3 : Int32) (S : zS) (h0 : iX12 T k0) (r : Int32 × zS) (h : fX12_earned T k0 x1 x2 x3 S = some r) : zGM 4 mX12_earned [.ref k0, .int x1, .int x2, .int x3] T S (some (.int r.1)) T r.2 := by
  refine zGM_of zpnX12 rfl (Nat.le_of_ble_eq_true rfl) (fun g => ?_)
  show zg g 4 mX12_earned T 0 [some (.ref k0), some (.int x1), some (.int x2), some (.int x3)] [] T S (some (.int r.1)) T r.2
  unfold fX12_earned at h
  refine z_aload_n dX12_earned_0 rfl ?_
  refine z_iload_n dX12_earned_1 rfl ?_
  obtain ⟨r1, hc2, h⟩ := zb1_elim h
  refine z_callV (As := [.int x1]) zcX12 zkX12_392 ziX12_isSet zqX12_isSet h0.1 (tX12_isSet T k0 x1 S h0 r1 hc2) rfl rfl (Nat.le_of_ble_eq_true rfl) (by decide) ⟨Nat.le_refl _, Nat.le_refl _⟩ ⟨Nat.le_refl _, Nat.le_refl _⟩ dX12_earned_2 ?_
  refine z_if_eq (tgt := 51) dX12_earned_5 (by decide) (fun q3 => ?_) (fun q3 => ?_)
  · rw [if_pos q3] at h
    exact z_mask [false, false, false, false] rfl (tX12_earned_b51 T  S  r h)
  · rw [if_neg q3] at h
    refine z_iload_n dX12_earned_8 rfl ?_
    obtain ⟨r4, hc5, h⟩ := zb1_elim h
    refine z_callS (As := [.int x2]) zkX12_382 zsX12_isWeek (tX12_isWeek T x2 S  r4 hc5) rfl rfl (Nat.le_of_ble_eq_true rfl) (by decide) ⟨Nat.le_refl _, Nat.le_refl _⟩ ⟨Nat.le_refl _, Nat.le_refl _⟩ dX12_earned_9 ?_
    refine z_if_eq (tgt := 51) dX12_earned_12 (by decide) (fun q6 => ?_) (fun q6 => ?_)
    · rw [if_pos q6] at h
      exact z_mask [false, false, false, false] rfl (tX12_earned_b51 T  S  r h)
    · rw [if_neg q6] at h
      refine z_iload_n dX12_earned_15 rfl ?_
      refine z_i2l dX12_earned_16 rfl ?_
      refine z_lconst (r := 0) dX12_earned_17 rfl ?_
      refine z_lconst (r := 1) dX12_earned_18 rfl ?_
      obtain ⟨r7, hc8, h⟩ := zb1_elim h
      refine z_callS (As := [.long ((x3 : Int32).toInt64), .long 0, .long 1]) zkX12_201 zsX12_in (tX12_in T ((x3 : Int32).toInt64) 0 1 S  r7 hc8) rfl rfl (Nat.le_of_ble_eq_true rfl) (by decide) ⟨Nat.le_refl _, Nat.le_refl _⟩ ⟨Nat.le_refl _, Nat.le_refl _⟩ dX12_earned_19 ?_
      refine z_if_eq (tgt := 51) dX12_earned_22 (by decide) (fun q9 => ?_) (fun q9 => ?_)
      · rw [if_pos q9] at h
        exact z_mask [false, false, false, false] rfl (tX12_earned_b51 T  S  r h)
      · rw [if_neg q9] at h
        refine z_aload_n dX12_earned_25 rfl ?_
        refine z_iload_n dX12_earned_26 rfl ?_
        refine z_if_ne (tgt := 34) dX12_earned_27 (by decide) (fun q10 => ?_) (fun q10 => ?_)
        · rw [if_neg q10] at h
          refine z_iconst dX12_earned_34 cI_2 ?_
          exact z_mask [true, true, true, false] rfl (tX12_earned_b35 T k0 x1 x2 2 k0 S h0 h0 r h)
        · rw [if_pos q10] at h
          refine z_iconst dX12_earned_30 cI_1 ?_
          refine z_goto (tgt := 35) dX12_earned_31 (by decide) ?_
          exact z_mask [true, true, true, false] rfl (tX12_earned_b35 T k0 x1 x2 1 k0 S h0 h0 r h)
/-! X12_ends -/
noncomputable def fX12_ends_b35 (T : zT) (k0 : Nat) (x1 : Int32) (x3 : Int32) (x4 : Int32) (s0 : Int32) (s1 : Int32) (s2 : Nat) (S : zS) : Option (Int32 × zS) :=
  zlet (zI S s2 48 (s1 + s0)) fun S6 => zb (fX12_comes T k0 2 x3 x4 x1 S6) fun r7 S9 => if r7 ≤ (S9.1 k0 48) then zlet (zI S9 k0 48 ((S9.1 k0 48) - r7)) fun S11 => some (1, S11) else zlet (zI S9 k0 50 x1) fun S12 => some (0, S12)
noncomputable def fX12_ends (T : zT) (k0 : Nat) (x1 : Int32) (x2 : Int32) (S : zS) : Option (Int32 × zS) :=
  zb1 (fX12_placed T k0 1 S) fun r1 => zb1 (fX12_placed T k0 0 S) fun r3 => if x2 = 0 then fX12_ends_b35 T k0 x1 r1 r3 0 (S.1 k0 48) k0 S else zb (fX12_comes T k0 1 r1 r3 x1 S) fun r13 S15 => fX12_ends_b35 T k0 x1 r1 r3 r13 (S.1 k0 48) k0 S15
set_option maxHeartbeats 4000000 in
set_option maxRecDepth 100000 in
theorem tX12_ends_b35 (T : zT) (k0 : Nat) (x1 : Int32) (x3 : Int32) (x4 : Int32) (s0 : Int32) (s1 : Int32) (s2 : Nat) (S : zS) (h0 : iX12 T k0) (g2 : iX12 T s2) {g : zG} (r : (Int32 × zS)) (h : fX12_ends_b35 T k0 x1 x3 x4 s0 s1 s2 S = some r)  : zg g 4 mX12_ends T 35 [some (.ref k0), some (.int x1), none, some (.int x3), some (.int x4), none] [.int s0, .int s1, .ref s2] T S (some (.int r.1)) T r.2 := by
  unfold fX12_ends_b35 at h
  refine z_iadd dX12_ends_35 rfl ?_
  refine z_putI zfX12_401 g2.1 dX12_ends_36 ?_
  obtain ⟨S6, eS6, h⟩ := zlet_elim h
  refine z_tS eS6 ?_
  refine z_aload_n dX12_ends_39 rfl ?_
  refine z_iconst dX12_ends_40 cI_2 ?_
  refine z_iload_n dX12_ends_41 rfl ?_
  refine z_iload dX12_ends_42 rfl ?_
  refine z_iload_n dX12_ends_44 rfl ?_
  obtain ⟨r7, S9, hc8, h⟩ := zb_elim h
  refine z_callV (As := [.int 2, .int x3, .int x4, .int x1]) zcX12 zkX12_395 ziX12_comes zqX12_comes h0.1 (tX12_comes T k0 2 x3 x4 x1 S6 h0 (r7, S9) hc8) rfl rfl (Nat.le_of_ble_eq_true rfl) (by decide) ⟨Nat.le_refl _, Nat.le_refl _⟩ ⟨Nat.le_refl _, Nat.le_refl _⟩ dX12_ends_45 ?_
  refine z_istore dX12_ends_48 rfl (by decide) rfl ?_
  refine z_iload dX12_ends_50 rfl ?_
  refine z_aload_n dX12_ends_52 rfl ?_
  refine z_gI (zF.x zfX12_401) h0.1 dX12_ends_53 ?_
  refine z_icmp_le (tgt := 66) dX12_ends_56 (by decide) (fun q10 => ?_) (fun q10 => ?_)
  · rw [if_pos q10] at h
    refine z_aload_n dX12_ends_66 rfl ?_
    refine z_dup dX12_ends_67 rfl ?_
    refine z_gI (zF.x zfX12_401) h0.1 dX12_ends_68 ?_
    refine z_iload dX12_ends_71 rfl ?_
    refine z_isub dX12_ends_73 rfl ?_
    refine z_putI zfX12_401 h0.1 dX12_ends_74 ?_
    obtain ⟨S11, eS11, h⟩ := zlet_elim h
    refine z_tS eS11 ?_
    refine z_iconst dX12_ends_77 cI_1 ?_
    cases h
    exact z_zret rfl (Or.inr rfl) dX12_ends_78
  · rw [if_neg q10] at h
    refine z_aload_n dX12_ends_59 rfl ?_
    refine z_iload_n dX12_ends_60 rfl ?_
    refine z_putI zfX12_411 h0.1 dX12_ends_61 ?_
    obtain ⟨S12, eS12, h⟩ := zlet_elim h
    refine z_tS eS12 ?_
    refine z_iconst dX12_ends_64 cI_0 ?_
    cases h
    exact z_zret rfl (Or.inl rfl) dX12_ends_65
set_option maxHeartbeats 4000000 in
set_option maxRecDepth 100000 in
theorem tX12_ends (T : zT) (k0 : Nat) (x1 : Int32) (x2 : Int32) (S : zS) (h0 : iX12 T k0) (r : Int32 × zS) (h : fX12_ends T k0 x1 x2 S = some r) : zGM 4 mX12_ends [.ref k0, .int x1, .int x2] T S (some (.int r.1)) T r.2 := by
  refine zGM_of zpnX12 rfl (Nat.le_of_ble_eq_true rfl) (fun g => ?_)
  show zg g 4 mX12_ends T 0 [some (.ref k0), some (.int x1), some (.int x2), none, none, none] [] T S (some (.int r.1)) T r.2
  unfold fX12_ends at h
  refine z_aload_n dX12_ends_0 rfl ?_
  refine z_iconst dX12_ends_1 cI_1 ?_
  obtain ⟨r1, hc2, h⟩ := zb1_elim h
  refine z_callV (As := [.int 1]) zcX12 zkX12_420 ziX12_placed zqX12_placed h0.1 (tX12_placed T k0 1 S h0 r1 hc2) rfl rfl (Nat.le_of_ble_eq_true rfl) (by decide) ⟨Nat.le_refl _, Nat.le_refl _⟩ ⟨Nat.le_refl _, Nat.le_refl _⟩ dX12_ends_2 ?_
  refine z_istore_n dX12_ends_5 rfl (by decide) rfl ?_
  refine z_aload_n dX12_ends_6 rfl ?_
  refine z_iconst dX12_ends_7 cI_0 ?_
  obtain ⟨r3, hc4, h⟩ := zb1_elim h
  refine z_callV (As := [.int 0]) zcX12 zkX12_420 ziX12_placed zqX12_placed h0.1 (tX12_placed T k0 0 S h0 r3 hc4) rfl rfl (Nat.le_of_ble_eq_true rfl) (by decide) ⟨Nat.le_refl _, Nat.le_refl _⟩ ⟨Nat.le_refl _, Nat.le_refl _⟩ dX12_ends_8 ?_
  refine z_istore dX12_ends_11 rfl (by decide) rfl ?_
  refine z_aload_n dX12_ends_13 rfl ?_
  refine z_dup dX12_ends_14 rfl ?_
  refine z_gI (zF.x zfX12_401) h0.1 dX12_ends_15 ?_
  refine z_iload_n dX12_ends_18 rfl ?_
  refine z_if_eq (tgt := 34) dX12_ends_19 (by decide) (fun q5 => ?_) (fun q5 => ?_)
  · rw [if_pos q5] at h
    refine z_iconst dX12_ends_34 cI_0 ?_
    exact z_mask [true, true, false, true, true, false] rfl (tX12_ends_b35 T k0 x1 r1 r3 0 (S.1 k0 48) k0 S h0 h0 r h)
  · rw [if_neg q5] at h
    refine z_aload_n dX12_ends_22 rfl ?_
    refine z_iconst dX12_ends_23 cI_1 ?_
    refine z_iload_n dX12_ends_24 rfl ?_
    refine z_iload dX12_ends_25 rfl ?_
    refine z_iload_n dX12_ends_27 rfl ?_
    obtain ⟨r13, S15, hc14, h⟩ := zb_elim h
    refine z_callV (As := [.int 1, .int r1, .int r3, .int x1]) zcX12 zkX12_395 ziX12_comes zqX12_comes h0.1 (tX12_comes T k0 1 r1 r3 x1 S h0 (r13, S15) hc14) rfl rfl (Nat.le_of_ble_eq_true rfl) (by decide) ⟨Nat.le_refl _, Nat.le_refl _⟩ ⟨Nat.le_refl _, Nat.le_refl _⟩ dX12_ends_28 ?_
    refine z_goto (tgt := 35) dX12_ends_31 (by decide) ?_
    exact z_mask [true, true, false, true, true, false] rfl (tX12_ends_b35 T k0 x1 r1 r3 r13 (S.1 k0 48) k0 S15 h0 h0 r h)
/-! X12_leads -/
noncomputable def fX12_leads_b132 (T : zT) (k0 : Nat) (x2 : Int32) (x3 : Int32) (x4 : Int32) (x5 : Int32) (x7 : Int32) (s0 : Int32) (s1 : Int32) (S : zS) : Option ((Int32 × Int32) ⊕ Int32) :=
  zlet (s1 + s0) fun u8 => zlet (x7 + 1) fun u9 => some (.inl (u8, u9))
noncomputable def fX12_leads_l97 (T : zT) (k0 : Nat) (x2 : Int32) (x3 : Int32) (x4 : Int32) (x5 : Int32) (S : zS) (x6 : Int32) (x7 : Int32) : Option ((Int32 × Int32) ⊕ Int32) :=
  if 8 ≤ x7 then some (.inr x6) else if (((x3 &&& (x2 ^^^ (-1))) >>> (x7 &&& 31)) &&& 1) = 1 then zb1 (fX12_owedAtFirst T k0 x7 x4 S) fun r10 => fX12_leads_b132 T k0 x2 x3 x4 x5 x7 r10 x6 S else fX12_leads_b132 T k0 x2 x3 x4 x5 x7 0 x6 S
noncomputable def fX12_leads_b215 (T : zT) (s0 : Int32) (S : zS) : Option (Int32 × zS) :=
  some (s0, S)
noncomputable def fX12_leads_b88 (T : zT) (k0 : Nat) (x2 : Int32) (x3 : Int32) (x4 : Int32) (s0 : Int32) (s1 : Int32) (S : zS) : Option (Int32 × zS) :=
  zlet (s1 + s0) fun u5 => zb1 (lp (fun a => fX12_leads_l97 T k0 x2 x3 x4 u5 S a.1 a.2) (0, 0)) fun e12 => if e12 ≤ u5 then zb1 (fX12_all T k0 S) fun r14 => zb1 (fX12_gone T k0 x4 S) fun r16 => zlet ((r14 &&& (x3 ^^^ (-1))) &&& (r16 ^^^ (-1))) fun u18 => zb (fX12_comes T k0 1 x3 u18 x4 S) fun r19 S21 => zlet (u5 + (r19 - e12)) fun u22 => zb (fX12_comes T k0 2 x3 u18 x4 S21) fun r23 S25 => if r23 ≤ u22 then fX12_leads_b215 T (u22 - r23) S25 else fX12_leads_b215 T (-1) S25 else some ((-1), S)
noncomputable def fX12_leads_b61 (T : zT) (k0 : Nat) (x2 : Int32) (x3 : Int32) (x4 : Int32) (s0 : Int32) (s1 : Int32) (S : zS) : Option (Int32 × zS) :=
  zlet (s1 + s0) fun u3 => if x4 = (S.1 k0 57) then zgd (zin (S.1 k0 56) 16) (fX12_leads_b88 T k0 x2 x3 x4 (S.1 (zr T k0 27) ((S.1 k0 56) : Int32).toNatClampNeg) u3 S) else fX12_leads_b88 T k0 x2 x3 x4 0 u3 S
noncomputable def fX12_leads_b40 (T : zT) (k0 : Nat) (x2 : Int32) (x3 : Int32) (x4 : Int32) (x5 : Int32) (S : zS) : Option (Int32 × zS) :=
  if x4 = (S.1 k0 58) then zgd (zin 0 2) (fX12_leads_b61 T k0 x2 x3 x4 (S.1 (zr T k0 30) (0 : Int32).toNatClampNeg) x5 S) else fX12_leads_b61 T k0 x2 x3 x4 0 x5 S
noncomputable def fX12_leads (T : zT) (k0 : Nat) (x1 : Int32) (x2 : Int32) (x3 : Int32) (x4 : Int32) (S : zS) : Option (Int32 × zS) :=
  if (S.1 k0 58) = (-1) then fX12_leads_b40 T k0 x2 x3 x4 x1 S else zgd (zin 0 2) (if x4 = (S.1 (zr T k0 31) (0 : Int32).toNatClampNeg) then zgd (zin 0 2) (zlet (x1 - (S.1 (zr T k0 30) (0 : Int32).toNatClampNeg)) fun u34 => if 0 ≤ u34 then fX12_leads_b40 T k0 x2 x3 x4 u34 S else some ((-1), S)) else fX12_leads_b40 T k0 x2 x3 x4 x1 S)
set_option maxHeartbeats 4000000 in
set_option maxRecDepth 100000 in
theorem tX12_leads_b132 (T : zT) (k0 : Nat) (x2 : Int32) (x3 : Int32) (x4 : Int32) (x5 : Int32) (x7 : Int32) (s0 : Int32) (s1 : Int32) (S : zS) (h0 : iX12 T k0) {g : zG} {v : Option Value} {S' : zS} (r : ((Int32 × Int32) ⊕ Int32)) (h : fX12_leads_b132 T k0 x2 x3 x4 x5 x7 s0 s1 S = some r) (K1 : ∀ a : (Int32 × Int32), r = .inl a → zg g 4 mX12_leads T 97 [some (.ref k0), none, some (.int x2), some (.int x3), some (.int x4), some (.int x5), some (.int a.1), some (.int a.2), none] [] T S v T S') (K2_0 : ∀ e : Int32, r = .inr e → zg g 4 mX12_leads T 141 [some (.ref k0), none, none, some (.int x3), some (.int x4), some (.int x5), some (.int e), none, none] [] T S v T S') : zg g 4 mX12_leads T 132 [some (.ref k0), none, some (.int x2), some (.int x3), some (.int x4), some (.int x5), none, some (.int x7), none] [.int s0, .int s1] T S v T S' := by
  unfold fX12_leads_b132 at h
  refine z_iadd dX12_leads_132 rfl ?_
  obtain ⟨u8, eu8, h⟩ := zlet_elim h
  refine z_ti eu8 ?_
  refine z_istore dX12_leads_133 rfl (by decide) rfl ?_
  obtain ⟨u9, eu9, h⟩ := zlet_elim h
  refine z_iinc (r := u9) dX12_leads_135 rfl (by rw [eu9, cI_1]) rfl (by decide) rfl ?_
  refine z_goto (tgt := 97) dX12_leads_138 (by decide) ?_
  cases h
  exact z_mask [true, false, true, true, true, true, true, true, false] rfl (K1 _ rfl)
set_option maxHeartbeats 4000000 in
set_option maxRecDepth 100000 in
theorem tX12_leads_l97b (T : zT) (k0 : Nat) (x2 : Int32) (x3 : Int32) (x4 : Int32) (x5 : Int32) (S : zS) (x6 : Int32) (x7 : Int32) (h0 : iX12 T k0) {g : zG} {v : Option Value} {S' : zS} (r : (Int32 × Int32) ⊕ Int32) (h : fX12_leads_l97 T k0 x2 x3 x4 x5 S x6 x7 = some r) (K1 : ∀ a : (Int32 × Int32), r = .inl a → zg g 4 mX12_leads T 97 [some (.ref k0), none, some (.int x2), some (.int x3), some (.int x4), some (.int x5), some (.int a.1), some (.int a.2), none] [] T S v T S') (K2_0 : ∀ e : Int32, r = .inr e → zg g 4 mX12_leads T 141 [some (.ref k0), none, none, some (.int x3), some (.int x4), some (.int x5), some (.int e), none, none] [] T S v T S') : zg g 4 mX12_leads T 97 [some (.ref k0), none, some (.int x2), some (.int x3), some (.int x4), some (.int x5), some (.int x6), some (.int x7), none] [] T S v T S' := by
  unfold fX12_leads_l97 at h
  refine z_iload dX12_leads_97 rfl ?_
  refine z_bipush dX12_leads_99 cB_8 ?_
  refine z_icmp_ge (tgt := 141) dX12_leads_101 (by decide) (fun q6 => ?_) (fun q6 => ?_)
  · rw [if_pos q6] at h
    cases h
    exact z_mask [true, false, false, true, true, true, true, false, false] rfl (K2_0 _ rfl)
  · rw [if_neg q6] at h
    refine z_iload dX12_leads_104 rfl ?_
    refine z_iload_n dX12_leads_106 rfl ?_
    refine z_iload_n dX12_leads_107 rfl ?_
    refine z_iconst dX12_leads_108 cI_m1 ?_
    refine z_ixor dX12_leads_109 rfl ?_
    refine z_iand dX12_leads_110 rfl ?_
    refine z_iload dX12_leads_111 rfl ?_
    refine z_ishr dX12_leads_113 rfl ?_
    refine z_iconst dX12_leads_114 cI_1 ?_
    refine z_iand dX12_leads_115 rfl ?_
    refine z_iconst dX12_leads_116 cI_1 ?_
    refine z_icmp_ne (tgt := 131) dX12_leads_117 (by decide) (fun q7 => ?_) (fun q7 => ?_)
    · rw [if_neg q7] at h
      refine z_iconst dX12_leads_131 cI_0 ?_
      exact z_mask [true, false, true, true, true, true, false, true, false] rfl (tX12_leads_b132 T k0 x2 x3 x4 x5 x7 0 x6 S h0 r h K1 K2_0)
    · rw [if_pos q7] at h
      refine z_aload_n dX12_leads_120 rfl ?_
      refine z_iload dX12_leads_121 rfl ?_
      refine z_iload dX12_leads_123 rfl ?_
      obtain ⟨r10, hc11, h⟩ := zb1_elim h
      refine z_callV (As := [.int x7, .int x4]) zcX12 zkX12_385 ziX12_owedAtFirst zqX12_owedAtFirst h0.1 (tX12_owedAtFirst T k0 x7 x4 S h0 r10 hc11) rfl rfl (Nat.le_of_ble_eq_true rfl) (by decide) ⟨Nat.le_refl _, Nat.le_refl _⟩ ⟨Nat.le_refl _, Nat.le_refl _⟩ dX12_leads_125 ?_
      refine z_goto (tgt := 132) dX12_leads_128 (by decide) ?_
      exact z_mask [true, false, true, true, true, true, false, true, false] rfl (tX12_leads_b132 T k0 x2 x3 x4 x5 x7 r10 x6 S h0 r h K1 K2_0)
set_option maxHeartbeats 4000000 in
set_option maxRecDepth 100000 in
theorem tX12_leads_l97 (T : zT) (k0 : Nat) (x2 : Int32) (x3 : Int32) (x4 : Int32) (x5 : Int32) (S : zS) (h0 : iX12 T k0) {g : zG} {v : Option Value} {S' : zS} : ∀ (n : Nat) (a : (Int32 × Int32)) (e : Int32), lpn (fun a => fX12_leads_l97 T k0 x2 x3 x4 x5 S a.1 a.2) n a = some e → (∀ e1 : Int32, e = e1 → zg g 4 mX12_leads T 141 [some (.ref k0), none, none, some (.int x3), some (.int x4), some (.int x5), some (.int e1), none, none] [] T S v T S') → zg g 4 mX12_leads T 97 [some (.ref k0), none, some (.int x2), some (.int x3), some (.int x4), some (.int x5), some (.int a.1), some (.int a.2), none] [] T S v T S' := by
  intro n
  induction n with
  | zero =>
    intro a e h
    cases h
  | succ n ih =>
    intro a e h k0_
    rcases lpn_succ h with ⟨a1, ha_, hb_⟩ | ha_
    · exact tX12_leads_l97b T k0 x2 x3 x4 x5 S a.1 a.2 h0 _ ha_ (fun a2 q => by cases q; exact ih a1 e hb_ k0_) (fun e1 q => by cases q)
    · exact tX12_leads_l97b T k0 x2 x3 x4 x5 S a.1 a.2 h0 _ ha_ (fun a2 q => by cases q) (fun e1 q => by cases q; exact k0_ _ rfl)
set_option maxHeartbeats 4000000 in
set_option maxRecDepth 100000 in
theorem tX12_leads_b215 (T : zT) (s0 : Int32) (S : zS)  {g : zG} (r : (Int32 × zS)) (h : fX12_leads_b215 T s0 S = some r)  : zg g 4 mX12_leads T 215 [none, none, none, none, none, none, none, none, none] [.int s0] T S (some (.int r.1)) T r.2 := by
  unfold fX12_leads_b215 at h
  cases h
  exact z_iret rfl dX12_leads_215
set_option maxHeartbeats 4000000 in
set_option maxRecDepth 100000 in
theorem tX12_leads_b88 (T : zT) (k0 : Nat) (x2 : Int32) (x3 : Int32) (x4 : Int32) (s0 : Int32) (s1 : Int32) (S : zS) (h0 : iX12 T k0) {g : zG} (r : (Int32 × zS)) (h : fX12_leads_b88 T k0 x2 x3 x4 s0 s1 S = some r)  : zg g 4 mX12_leads T 88 [some (.ref k0), none, some (.int x2), some (.int x3), some (.int x4), none, none, none, none] [.int s0, .int s1] T S (some (.int r.1)) T r.2 := by
  unfold fX12_leads_b88 at h
  refine z_iadd dX12_leads_88 rfl ?_
  obtain ⟨u5, eu5, h⟩ := zlet_elim h
  refine z_ti eu5 ?_
  refine z_istore dX12_leads_89 rfl (by decide) rfl ?_
  refine z_iconst dX12_leads_91 cI_0 ?_
  refine z_istore dX12_leads_92 rfl (by decide) rfl ?_
  refine z_iconst dX12_leads_94 cI_0 ?_
  refine z_istore dX12_leads_95 rfl (by decide) rfl ?_
  obtain ⟨e12, hl27, h⟩ := zb1_elim h
  obtain ⟨nf28, hl27⟩ := lp_some hl27
  refine z_mask [true, false, true, true, true, true, true, true, false] rfl (tX12_leads_l97 T k0 x2 x3 x4 u5 S h0 nf28 (0, 0) e12 hl27 (fun e_ q => ?_))
  · cases q
    refine z_iload dX12_leads_141 rfl ?_
    refine z_iload dX12_leads_143 rfl ?_
    refine z_icmp_le (tgt := 150) dX12_leads_145 (by decide) (fun q13 => ?_) (fun q13 => ?_)
    · rw [if_pos q13] at h
      refine z_aload_n dX12_leads_150 rfl ?_
      obtain ⟨r14, hc15, h⟩ := zb1_elim h
      refine z_callV (As := []) zcX12 zkX12_354 ziX12_all zqX12_all h0.1 (tX12_all T k0 S h0 r14 hc15) rfl rfl (Nat.le_of_ble_eq_true rfl) (by decide) ⟨Nat.le_refl _, Nat.le_refl _⟩ ⟨Nat.le_refl _, Nat.le_refl _⟩ dX12_leads_151 ?_
      refine z_iload_n dX12_leads_154 rfl ?_
      refine z_iconst dX12_leads_155 cI_m1 ?_
      refine z_ixor dX12_leads_156 rfl ?_
      refine z_iand dX12_leads_157 rfl ?_
      refine z_aload_n dX12_leads_158 rfl ?_
      refine z_iload dX12_leads_159 rfl ?_
      obtain ⟨r16, hc17, h⟩ := zb1_elim h
      refine z_callV (As := [.int x4]) zcX12 zkX12_479 ziX12_gone zqX12_gone h0.1 (tX12_gone T k0 x4 S h0 r16 hc17) rfl rfl (Nat.le_of_ble_eq_true rfl) (by decide) ⟨Nat.le_refl _, Nat.le_refl _⟩ ⟨Nat.le_refl _, Nat.le_refl _⟩ dX12_leads_161 ?_
      refine z_iconst dX12_leads_164 cI_m1 ?_
      refine z_ixor dX12_leads_165 rfl ?_
      refine z_iand dX12_leads_166 rfl ?_
      obtain ⟨u18, eu18, h⟩ := zlet_elim h
      refine z_ti eu18 ?_
      refine z_istore dX12_leads_167 rfl (by decide) rfl ?_
      refine z_iload dX12_leads_169 rfl ?_
      refine z_aload_n dX12_leads_171 rfl ?_
      refine z_iconst dX12_leads_172 cI_1 ?_
      refine z_iload_n dX12_leads_173 rfl ?_
      refine z_iload dX12_leads_174 rfl ?_
      refine z_iload dX12_leads_176 rfl ?_
      obtain ⟨r19, S21, hc20, h⟩ := zb_elim h
      refine z_callV (As := [.int 1, .int x3, .int u18, .int x4]) zcX12 zkX12_395 ziX12_comes zqX12_comes h0.1 (tX12_comes T k0 1 x3 u18 x4 S h0 (r19, S21) hc20) rfl rfl (Nat.le_of_ble_eq_true rfl) (by decide) ⟨Nat.le_refl _, Nat.le_refl _⟩ ⟨Nat.le_refl _, Nat.le_refl _⟩ dX12_leads_178 ?_
      refine z_iload dX12_leads_181 rfl ?_
      refine z_isub dX12_leads_183 rfl ?_
      refine z_iadd dX12_leads_184 rfl ?_
      obtain ⟨u22, eu22, h⟩ := zlet_elim h
      refine z_ti eu22 ?_
      refine z_istore dX12_leads_185 rfl (by decide) rfl ?_
      refine z_aload_n dX12_leads_187 rfl ?_
      refine z_iconst dX12_leads_188 cI_2 ?_
      refine z_iload_n dX12_leads_189 rfl ?_
      refine z_iload dX12_leads_190 rfl ?_
      refine z_iload dX12_leads_192 rfl ?_
      obtain ⟨r23, S25, hc24, h⟩ := zb_elim h
      refine z_callV (As := [.int 2, .int x3, .int u18, .int x4]) zcX12 zkX12_395 ziX12_comes zqX12_comes h0.1 (tX12_comes T k0 2 x3 u18 x4 S21 h0 (r23, S25) hc24) rfl rfl (Nat.le_of_ble_eq_true rfl) (by decide) ⟨Nat.le_refl _, Nat.le_refl _⟩ ⟨Nat.le_refl _, Nat.le_refl _⟩ dX12_leads_194 ?_
      refine z_istore dX12_leads_197 rfl (by decide) rfl ?_
      refine z_iload dX12_leads_199 rfl ?_
      refine z_iload dX12_leads_201 rfl ?_
      refine z_icmp_le (tgt := 210) dX12_leads_203 (by decide) (fun q26 => ?_) (fun q26 => ?_)
      · rw [if_pos q26] at h
        refine z_iload dX12_leads_210 rfl ?_
        refine z_iload dX12_leads_212 rfl ?_
        refine z_isub dX12_leads_214 rfl ?_
        exact z_mask [false, false, false, false, false, false, false, false, false] rfl (tX12_leads_b215 T (u22 - r23) S25  r h)
      · rw [if_neg q26] at h
        refine z_iconst dX12_leads_206 cI_m1 ?_
        refine z_goto (tgt := 215) dX12_leads_207 (by decide) ?_
        exact z_mask [false, false, false, false, false, false, false, false, false] rfl (tX12_leads_b215 T (-1) S25  r h)
    · rw [if_neg q13] at h
      refine z_iconst dX12_leads_148 cI_m1 ?_
      cases h
      exact z_iret rfl dX12_leads_149
set_option maxHeartbeats 4000000 in
set_option maxRecDepth 100000 in
theorem tX12_leads_b61 (T : zT) (k0 : Nat) (x2 : Int32) (x3 : Int32) (x4 : Int32) (s0 : Int32) (s1 : Int32) (S : zS) (h0 : iX12 T k0) {g : zG} (r : (Int32 × zS)) (h : fX12_leads_b61 T k0 x2 x3 x4 s0 s1 S = some r)  : zg g 4 mX12_leads T 61 [some (.ref k0), none, some (.int x2), some (.int x3), some (.int x4), none, none, none, none] [.int s0, .int s1] T S (some (.int r.1)) T r.2 := by
  unfold fX12_leads_b61 at h
  refine z_iadd dX12_leads_61 rfl ?_
  obtain ⟨u3, eu3, h⟩ := zlet_elim h
  refine z_ti eu3 ?_
  refine z_istore dX12_leads_62 rfl (by decide) rfl ?_
  refine z_iload dX12_leads_64 rfl ?_
  refine z_iload dX12_leads_66 rfl ?_
  refine z_aload_n dX12_leads_68 rfl ?_
  refine z_gI (zF.x zfX12_470) h0.1 dX12_leads_69 ?_
  refine z_icmp_ne (tgt := 87) dX12_leads_72 (by decide) (fun q4 => ?_) (fun q4 => ?_)
  · rw [if_neg q4] at h
    refine z_iconst dX12_leads_87 cI_0 ?_
    exact z_mask [true, false, true, true, true, false, false, false, false] rfl (tX12_leads_b88 T k0 x2 x3 x4 0 u3 S h0 r h)
  · rw [if_pos q4] at h
    refine z_aload_n dX12_leads_75 rfl ?_
    refine z_gA (zF.x zfX12_59) h0.1 dX12_leads_76 ?_
    refine z_aload_n dX12_leads_79 rfl ?_
    refine z_gI (zF.x zfX12_467) h0.1 dX12_leads_80 ?_
    obtain ⟨q29, h⟩ := zgd_elim h
    refine z_iald h0.2.2.2.2.2.2.2.2.2.2.2.2.2.2.2.2.2.1 (zin_ok q29) dX12_leads_83 ?_
    refine z_goto (tgt := 88) dX12_leads_84 (by decide) ?_
    exact z_mask [true, false, true, true, true, false, false, false, false] rfl (tX12_leads_b88 T k0 x2 x3 x4 (S.1 (zr T k0 27) ((S.1 k0 56) : Int32).toNatClampNeg) u3 S h0 r h)
set_option maxHeartbeats 4000000 in
set_option maxRecDepth 100000 in
theorem tX12_leads_b40 (T : zT) (k0 : Nat) (x2 : Int32) (x3 : Int32) (x4 : Int32) (x5 : Int32) (S : zS) (h0 : iX12 T k0) {g : zG} (r : (Int32 × zS)) (h : fX12_leads_b40 T k0 x2 x3 x4 x5 S = some r)  : zg g 4 mX12_leads T 40 [some (.ref k0), none, some (.int x2), some (.int x3), some (.int x4), some (.int x5), none, none, none] [] T S (some (.int r.1)) T r.2 := by
  unfold fX12_leads_b40 at h
  refine z_iload dX12_leads_40 rfl ?_
  refine z_iload dX12_leads_42 rfl ?_
  refine z_aload_n dX12_leads_44 rfl ?_
  refine z_gI (zF.x zfX12_473) h0.1 dX12_leads_45 ?_
  refine z_icmp_ne (tgt := 60) dX12_leads_48 (by decide) (fun q2 => ?_) (fun q2 => ?_)
  · rw [if_neg q2] at h
    refine z_iconst dX12_leads_60 cI_0 ?_
    exact z_mask [true, false, true, true, true, false, false, false, false] rfl (tX12_leads_b61 T k0 x2 x3 x4 0 x5 S h0 r h)
  · rw [if_pos q2] at h
    refine z_aload_n dX12_leads_51 rfl ?_
    refine z_gA (zF.x zfX12_68) h0.1 dX12_leads_52 ?_
    refine z_iconst dX12_leads_55 cI_0 ?_
    obtain ⟨q30, h⟩ := zgd_elim h
    refine z_iald h0.2.2.2.2.2.2.2.2.2.2.2.2.2.2.2.2.2.2.2.2.1 (zin_ok q30) dX12_leads_56 ?_
    refine z_goto (tgt := 61) dX12_leads_57 (by decide) ?_
    exact z_mask [true, false, true, true, true, false, false, false, false] rfl (tX12_leads_b61 T k0 x2 x3 x4 (S.1 (zr T k0 30) (0 : Int32).toNatClampNeg) x5 S h0 r h)
set_option maxHeartbeats 4000000 in
set_option maxRecDepth 100000 in
theorem tX12_leads (T : zT) (k0 : Nat) (x1 : Int32) (x2 : Int32) (x3 : Int32) (x4 : Int32) (S : zS) (h0 : iX12 T k0) (r : Int32 × zS) (h : fX12_leads T k0 x1 x2 x3 x4 S = some r) : zGM 4 mX12_leads [.ref k0, .int x1, .int x2, .int x3, .int x4] T S (some (.int r.1)) T r.2 := by
  refine zGM_of zpnX12 rfl (Nat.le_of_ble_eq_true rfl) (fun g => ?_)
  show zg g 4 mX12_leads T 0 [some (.ref k0), some (.int x1), some (.int x2), some (.int x3), some (.int x4), none, none, none, none] [] T S (some (.int r.1)) T r.2
  unfold fX12_leads at h
  refine z_iload_n dX12_leads_0 rfl ?_
  refine z_istore dX12_leads_1 rfl (by decide) rfl ?_
  refine z_aload_n dX12_leads_3 rfl ?_
  refine z_gI (zF.x zfX12_473) h0.1 dX12_leads_4 ?_
  refine z_iconst dX12_leads_7 cI_m1 ?_
  refine z_icmp_eq (tgt := 40) dX12_leads_8 (by decide) (fun q1 => ?_) (fun q1 => ?_)
  · rw [if_pos q1] at h
    exact z_mask [true, false, true, true, true, true, false, false, false] rfl (tX12_leads_b40 T k0 x2 x3 x4 x1 S h0 r h)
  · rw [if_neg q1] at h
    refine z_iload dX12_leads_11 rfl ?_
    refine z_aload_n dX12_leads_13 rfl ?_
    refine z_gA (zF.x zfX12_71) h0.1 dX12_leads_14 ?_
    refine z_iconst dX12_leads_17 cI_0 ?_
    obtain ⟨q31, h⟩ := zgd_elim h
    refine z_iald h0.2.2.2.2.2.2.2.2.2.2.2.2.2.2.2.2.2.2.2.2.2.1 (zin_ok q31) dX12_leads_18 ?_
    refine z_icmp_ne (tgt := 40) dX12_leads_19 (by decide) (fun q32 => ?_) (fun q32 => ?_)
    · rw [if_neg q32] at h
      exact z_mask [true, false, true, true, true, true, false, false, false] rfl (tX12_leads_b40 T k0 x2 x3 x4 x1 S h0 r h)
    · rw [if_pos q32] at h
      refine z_iload dX12_leads_22 rfl ?_
      refine z_aload_n dX12_leads_24 rfl ?_
      refine z_gA (zF.x zfX12_68) h0.1 dX12_leads_25 ?_
      refine z_iconst dX12_leads_28 cI_0 ?_
      obtain ⟨q33, h⟩ := zgd_elim h
      refine z_iald h0.2.2.2.2.2.2.2.2.2.2.2.2.2.2.2.2.2.2.2.2.1 (zin_ok q33) dX12_leads_29 ?_
      refine z_isub dX12_leads_30 rfl ?_
      obtain ⟨u34, eu34, h⟩ := zlet_elim h
      refine z_ti eu34 ?_
      refine z_istore dX12_leads_31 rfl (by decide) rfl ?_
      refine z_iload dX12_leads_33 rfl ?_
      refine z_if_ge (tgt := 40) dX12_leads_35 (by decide) (fun q35 => ?_) (fun q35 => ?_)
      · rw [if_pos q35] at h
        exact z_mask [true, false, true, true, true, true, false, false, false] rfl (tX12_leads_b40 T k0 x2 x3 x4 u34 S h0 r h)
      · rw [if_neg q35] at h
        refine z_iconst dX12_leads_38 cI_m1 ?_
        cases h
        exact z_iret rfl dX12_leads_39
/-! X12_likesIt -/
noncomputable def fX12_likesIt_b267 (T : zT) (k0 : Nat) (x10 : Int32) (x11 : Int32) (S : zS) : Option ((Int32 × zS) ⊕ (zS ⊕ (Int32 × zS))) :=
  zlet (x11 + 1) fun u45 => some (.inl (u45, S))
noncomputable def fX12_likesIt_l176 (T : zT) (k0 : Nat) (x10 : Int32) (x11 : Int32) (S : zS) : Option ((Int32 × zS) ⊕ (zS ⊕ (Int32 × zS))) :=
  zgd (zin x10 8) (if ((24 * x10) + (S.1 (zr T k0 14) (x10 : Int32).toNatClampNeg)) ≤ x11 then some (.inr (.inl S)) else zgd (zin x11 192) (if (S.1 (zr T k0 15) (x11 : Int32).toNatClampNeg) = 0 then zgd (zin x11 192) (zgd (zin x11 192) (if (S.1 (zr T k0 19) (x11 : Int32).toNatClampNeg) = (S.1 (zr T k0 20) (x11 : Int32).toNatClampNeg) then some (.inr (.inr (x11, S))) else zgd (zin x11 192) (zgd (zin x11 192) (zb (fX12_answer T k0 x10 (S.1 (zr T k0 19) (x11 : Int32).toNatClampNeg) (S.1 (zr T k0 20) (x11 : Int32).toNatClampNeg) S) fun r51 S53 => if (lg_cmp r51 1) = 0 then some (.inr (.inr (x11, S53))) else fX12_likesIt_b267 T k0 x10 x11 S53)))) else fX12_likesIt_b267 T k0 x10 x11 S))
noncomputable def fX12_likesIt_b246 (T : zT) (k0 : Nat) (x10 : Int32) (x11 : Int32) (S : zS) : Option (Int64 × zS) :=
  zgd (zin x11 192) (zgd (zin x11 192) (zb (fX12_answer T k0 x10 (S.1 (zr T k0 18) (x11 : Int32).toNatClampNeg) (S.1 (zr T k0 19) (x11 : Int32).toNatClampNeg) S) fun r58 S60 => some (r58, S60)))
noncomputable def fX12_likesIt_b97 (T : zT) (k0 : Nat) (x1 : Int32) (x2 : Int32) (x3 : Int32) (x4 : Int32) (x5 : Int32) (x6 : Int32) (x9 : Int32) (s0 : Int64) (s1 : Int32) (s2 : Nat) (m2 : Nat) (S : zS) : Option (Int64 × zS) :=
  zgd (zin s1 m2) (zlet (zJ S s2 (s1 : Int32).toNatClampNeg s0) fun S21 => zgd (zin 3 9) (zlet (zJ S21 (zr T k0 34) (3 : Int32).toNatClampNeg ((x9 : Int32).toInt64)) fun S23 => zgd (zin x2 16) (zgd (zin 4 9) (zlet (zJ S23 (zr T k0 34) (4 : Int32).toNatClampNeg (((S23.1 (zr T k0 28) (x2 : Int32).toNatClampNeg) : Int32).toInt64)) fun S26 => zgd (zin 5 9) (zlet (zJ S26 (zr T k0 34) (5 : Int32).toNatClampNeg ((x3 : Int32).toInt64)) fun S28 => zgd (zin 6 9) (zlet (zJ S28 (zr T k0 34) (6 : Int32).toNatClampNeg ((x6 : Int32).toInt64)) fun S30 => zb1 (fX12_bits T x4 S30) fun r31 => zgd (zin 7 9) (zlet (zJ S30 (zr T k0 34) (7 : Int32).toNatClampNeg ((r31 : Int32).toInt64)) fun S34 => zb1 (fX12_bits T x5 S34) fun r35 => zgd (zin 8 9) (zlet (zJ S34 (zr T k0 34) (8 : Int32).toNatClampNeg ((r35 : Int32).toInt64)) fun S38 => zlet (2 + x1) fun u39 => zlet (24 * u39) fun u40 => zb1 (lp (fun a => fX12_likesIt_l176 T k0 u39 a.1 a.2) (u40, S38)) fun e55 => zsm e55 (fun e55_0 => some (0, e55_0)) (fun e55_1 => fX12_likesIt_b246 T k0 u39 e55_1.1 e55_1.2)))))))))
noncomputable def fX12_likesIt (T : zT) (k0 : Nat) (x1 : Int32) (x2 : Int32) (x3 : Int32) (x4 : Int32) (x5 : Int32) (x6 : Int32) (S : zS) : Option (Int64 × zS) :=
  zlet (x4 ||| (1 <<< (x2 &&& 31))) fun u1 => zlet (x5 &&& ((1 <<< (x2 &&& 31)) ^^^ (-1))) fun u2 => zb (fX12_comes T k0 1 u1 u2 x3 S) fun r3 S5 => zb (fX12_comes T k0 1 x4 x5 x3 S5) fun r6 S8 => zlet (r3 - r6) fun u9 => zb1 (fX12_owedAtFirst T k0 x2 x3 S8) fun r10 => zgd (zin 0 9) (zlet (zJ S8 (zr T k0 34) (0 : Int32).toNatClampNeg ((r10 : Int32).toInt64)) fun S13 => zgd (zin x2 16) (zgd (zin 1 9) (zlet (zJ S13 (zr T k0 34) (1 : Int32).toNatClampNeg (((S13.1 (zr T k0 24) (x2 : Int32).toNatClampNeg) : Int32).toInt64)) fun S16 => zgd (zin x2 16) (if (S16.1 (zr T k0 25) (x2 : Int32).toNatClampNeg) = (-1) then fX12_likesIt_b97 T k0 x1 x2 x3 x4 x5 x6 u9 9999 2 (zr T k0 34) 9 S16 else zgd (zin x2 16) (fX12_likesIt_b97 T k0 x1 x2 x3 x4 x5 x6 u9 ((((S16.1 (zr T k0 25) (x2 : Int32).toNatClampNeg) - x3) : Int32).toInt64) 2 (zr T k0 34) 9 S16)))))
set_option maxHeartbeats 4000000 in
set_option maxRecDepth 100000 in
theorem tX12_likesIt_b267 (T : zT) (k0 : Nat) (x10 : Int32) (x11 : Int32) (S : zS) (h0 : iX12 T k0) {g : zG} {v : Option Value} {S' : zS} (r : ((Int32 × zS) ⊕ (zS ⊕ (Int32 × zS)))) (h : fX12_likesIt_b267 T k0 x10 x11 S = some r) (K1 : ∀ a : (Int32 × zS), r = .inl a → zg g 4 mX12_likesIt T 176 [some (.ref k0), none, none, none, none, none, none, none, none, none, some (.int x10), some (.int a.1)] [] T a.2 v T S') (K2_0 : ∀ e : zS, r = .inr (.inl e) → zg g 4 mX12_likesIt T 273 [none, none, none, none, none, none, none, none, none, none, none, none] [] T e v T S') (K2_1 : ∀ e : (Int32 × zS), r = .inr (.inr e) → zg g 4 mX12_likesIt T 246 [some (.ref k0), none, none, none, none, none, none, none, none, none, some (.int x10), some (.int e.1)] [] T e.2 v T S') : zg g 4 mX12_likesIt T 267 [some (.ref k0), none, none, none, none, none, none, none, none, none, some (.int x10), some (.int x11)] [] T S v T S' := by
  unfold fX12_likesIt_b267 at h
  obtain ⟨u45, eu45, h⟩ := zlet_elim h
  refine z_iinc (r := u45) dX12_likesIt_267 rfl (by rw [eu45, cI_1]) rfl (by decide) rfl ?_
  refine z_goto (tgt := 176) dX12_likesIt_270 (by decide) ?_
  cases h
  exact z_mask [true, false, false, false, false, false, false, false, false, false, true, true] rfl (K1 _ rfl)
set_option maxHeartbeats 4000000 in
set_option maxRecDepth 100000 in
theorem tX12_likesIt_l176b (T : zT) (k0 : Nat) (x10 : Int32) (x11 : Int32) (S : zS) (h0 : iX12 T k0) {g : zG} {v : Option Value} {S' : zS} (r : (Int32 × zS) ⊕ (zS ⊕ (Int32 × zS))) (h : fX12_likesIt_l176 T k0 x10 x11 S = some r) (K1 : ∀ a : (Int32 × zS), r = .inl a → zg g 4 mX12_likesIt T 176 [some (.ref k0), none, none, none, none, none, none, none, none, none, some (.int x10), some (.int a.1)] [] T a.2 v T S') (K2_0 : ∀ e : zS, r = .inr (.inl e) → zg g 4 mX12_likesIt T 273 [none, none, none, none, none, none, none, none, none, none, none, none] [] T e v T S') (K2_1 : ∀ e : (Int32 × zS), r = .inr (.inr e) → zg g 4 mX12_likesIt T 246 [some (.ref k0), none, none, none, none, none, none, none, none, none, some (.int x10), some (.int e.1)] [] T e.2 v T S') : zg g 4 mX12_likesIt T 176 [some (.ref k0), none, none, none, none, none, none, none, none, none, some (.int x10), some (.int x11)] [] T S v T S' := by
  unfold fX12_likesIt_l176 at h
  refine z_iload dX12_likesIt_176 rfl ?_
  refine z_bipush dX12_likesIt_178 cB_24 ?_
  refine z_iload dX12_likesIt_180 rfl ?_
  refine z_imul dX12_likesIt_182 rfl ?_
  refine z_aload_n dX12_likesIt_183 rfl ?_
  refine z_gA (zF.x zfX12_20) h0.1 dX12_likesIt_184 ?_
  refine z_iload dX12_likesIt_187 rfl ?_
  obtain ⟨q41, h⟩ := zgd_elim h
  refine z_iald h0.2.2.2.2.1 (zin_ok q41) dX12_likesIt_189 ?_
  refine z_iadd dX12_likesIt_190 rfl ?_
  refine z_icmp_ge (tgt := 273) dX12_likesIt_191 (by decide) (fun q42 => ?_) (fun q42 => ?_)
  · rw [if_pos q42] at h
    cases h
    exact z_mask [false, false, false, false, false, false, false, false, false, false, false, false] rfl (K2_0 _ rfl)
  · rw [if_neg q42] at h
    refine z_aload_n dX12_likesIt_194 rfl ?_
    refine z_gA (zF.x zfX12_23) h0.1 dX12_likesIt_195 ?_
    refine z_iload dX12_likesIt_198 rfl ?_
    obtain ⟨q43, h⟩ := zgd_elim h
    refine z_iald h0.2.2.2.2.2.1 (zin_ok q43) dX12_likesIt_200 ?_
    refine z_if_ne (tgt := 267) dX12_likesIt_201 (by decide) (fun q44 => ?_) (fun q44 => ?_)
    · rw [if_neg q44] at h
      exact z_mask [true, false, false, false, false, false, false, false, false, false, true, true] rfl (tX12_likesIt_b267 T k0 x10 x11 S h0 r h K1 K2_0 K2_1)
    · rw [if_pos q44] at h
      refine z_aload_n dX12_likesIt_204 rfl ?_
      refine z_gA (zF.x zfX12_35) h0.1 dX12_likesIt_205 ?_
      refine z_iload dX12_likesIt_208 rfl ?_
      obtain ⟨q46, h⟩ := zgd_elim h
      refine z_iald h0.2.2.2.2.2.2.2.2.2.1 (zin_ok q46) dX12_likesIt_210 ?_
      refine z_aload_n dX12_likesIt_211 rfl ?_
      refine z_gA (zF.x zfX12_38) h0.1 dX12_likesIt_212 ?_
      refine z_iload dX12_likesIt_215 rfl ?_
      obtain ⟨q47, h⟩ := zgd_elim h
      refine z_iald h0.2.2.2.2.2.2.2.2.2.2.1 (zin_ok q47) dX12_likesIt_217 ?_
      refine z_icmp_eq (tgt := 246) dX12_likesIt_218 (by decide) (fun q48 => ?_) (fun q48 => ?_)
      · rw [if_pos q48] at h
        cases h
        exact z_mask [true, false, false, false, false, false, false, false, false, false, true, true] rfl (K2_1 _ rfl)
      · rw [if_neg q48] at h
        refine z_aload_n dX12_likesIt_221 rfl ?_
        refine z_iload dX12_likesIt_222 rfl ?_
        refine z_aload_n dX12_likesIt_224 rfl ?_
        refine z_gA (zF.x zfX12_35) h0.1 dX12_likesIt_225 ?_
        refine z_iload dX12_likesIt_228 rfl ?_
        obtain ⟨q49, h⟩ := zgd_elim h
        refine z_iald h0.2.2.2.2.2.2.2.2.2.1 (zin_ok q49) dX12_likesIt_230 ?_
        refine z_aload_n dX12_likesIt_231 rfl ?_
        refine z_gA (zF.x zfX12_38) h0.1 dX12_likesIt_232 ?_
        refine z_iload dX12_likesIt_235 rfl ?_
        obtain ⟨q50, h⟩ := zgd_elim h
        refine z_iald h0.2.2.2.2.2.2.2.2.2.2.1 (zin_ok q50) dX12_likesIt_237 ?_
        obtain ⟨r51, S53, hc52, h⟩ := zb_elim h
        refine z_callV (As := [.int x10, .int (S.1 (zr T k0 19) (x11 : Int32).toNatClampNeg), .int (S.1 (zr T k0 20) (x11 : Int32).toNatClampNeg)]) zcX12 zkX12_388 ziX12_answer zqX12_answer h0.1 (tX12_answer T k0 x10 (S.1 (zr T k0 19) (x11 : Int32).toNatClampNeg) (S.1 (zr T k0 20) (x11 : Int32).toNatClampNeg) S h0 (r51, S53) hc52) rfl rfl (Nat.le_of_ble_eq_true rfl) (by decide) ⟨Nat.le_refl _, Nat.le_refl _⟩ ⟨Nat.le_refl _, Nat.le_refl _⟩ dX12_likesIt_238 ?_
        refine z_lconst (r := 1) dX12_likesIt_241 rfl ?_
        refine z_lcmp dX12_likesIt_242 rfl ?_
        refine z_if_ne (tgt := 267) dX12_likesIt_243 (by decide) (fun q54 => ?_) (fun q54 => ?_)
        · rw [if_neg q54] at h
          exact z_mask [true, false, false, false, false, false, false, false, false, false, true, true] rfl (tX12_likesIt_b267 T k0 x10 x11 S53 h0 r h K1 K2_0 K2_1)
        · rw [if_pos q54] at h
          cases h
          exact z_mask [true, false, false, false, false, false, false, false, false, false, true, true] rfl (K2_1 _ rfl)
set_option maxHeartbeats 4000000 in
set_option maxRecDepth 100000 in
theorem tX12_likesIt_l176 (T : zT) (k0 : Nat) (x10 : Int32) (h0 : iX12 T k0) {g : zG} {v : Option Value} {S' : zS} : ∀ (n : Nat) (a : (Int32 × zS)) (e : (zS ⊕ (Int32 × zS))), lpn (fun a => fX12_likesIt_l176 T k0 x10 a.1 a.2) n a = some e → (∀ e1 : zS, e = (.inl e1) → zg g 4 mX12_likesIt T 273 [none, none, none, none, none, none, none, none, none, none, none, none] [] T e1 v T S') → (∀ e1 : (Int32 × zS), e = (.inr e1) → zg g 4 mX12_likesIt T 246 [some (.ref k0), none, none, none, none, none, none, none, none, none, some (.int x10), some (.int e1.1)] [] T e1.2 v T S') → zg g 4 mX12_likesIt T 176 [some (.ref k0), none, none, none, none, none, none, none, none, none, some (.int x10), some (.int a.1)] [] T a.2 v T S' := by
  intro n
  induction n with
  | zero =>
    intro a e h
    cases h
  | succ n ih =>
    intro a e h k0_ k1_
    rcases lpn_succ h with ⟨a1, ha_, hb_⟩ | ha_
    · exact tX12_likesIt_l176b T k0 x10 a.1 a.2 h0 _ ha_ (fun a2 q => by cases q; exact ih a1 e hb_ k0_ k1_) (fun e1 q => by cases q) (fun e1 q => by cases q)
    · exact tX12_likesIt_l176b T k0 x10 a.1 a.2 h0 _ ha_ (fun a2 q => by cases q) (fun e1 q => by cases q; exact k0_ _ rfl) (fun e1 q => by cases q; exact k1_ _ rfl)
set_option maxHeartbeats 4000000 in
set_option maxRecDepth 100000 in
theorem tX12_likesIt_b246 (T : zT) (k0 : Nat) (x10 : Int32) (x11 : Int32) (S : zS) (h0 : iX12 T k0) {g : zG} (r : (Int64 × zS)) (h : fX12_likesIt_b246 T k0 x10 x11 S = some r)  : zg g 4 mX12_likesIt T 246 [some (.ref k0), none, none, none, none, none, none, none, none, none, some (.int x10), some (.int x11)] [] T S (some (.long r.1)) T r.2 := by
  unfold fX12_likesIt_b246 at h
  refine z_aload_n dX12_likesIt_246 rfl ?_
  refine z_iload dX12_likesIt_247 rfl ?_
  refine z_aload_n dX12_likesIt_249 rfl ?_
  refine z_gA (zF.x zfX12_32) h0.1 dX12_likesIt_250 ?_
  refine z_iload dX12_likesIt_253 rfl ?_
  obtain ⟨q56, h⟩ := zgd_elim h
  refine z_iald h0.2.2.2.2.2.2.2.2.1 (zin_ok q56) dX12_likesIt_255 ?_
  refine z_aload_n dX12_likesIt_256 rfl ?_
  refine z_gA (zF.x zfX12_35) h0.1 dX12_likesIt_257 ?_
  refine z_iload dX12_likesIt_260 rfl ?_
  obtain ⟨q57, h⟩ := zgd_elim h
  refine z_iald h0.2.2.2.2.2.2.2.2.2.1 (zin_ok q57) dX12_likesIt_262 ?_
  obtain ⟨r58, S60, hc59, h⟩ := zb_elim h
  refine z_callV (As := [.int x10, .int (S.1 (zr T k0 18) (x11 : Int32).toNatClampNeg), .int (S.1 (zr T k0 19) (x11 : Int32).toNatClampNeg)]) zcX12 zkX12_388 ziX12_answer zqX12_answer h0.1 (tX12_answer T k0 x10 (S.1 (zr T k0 18) (x11 : Int32).toNatClampNeg) (S.1 (zr T k0 19) (x11 : Int32).toNatClampNeg) S h0 (r58, S60) hc59) rfl rfl (Nat.le_of_ble_eq_true rfl) (by decide) ⟨Nat.le_refl _, Nat.le_refl _⟩ ⟨Nat.le_refl _, Nat.le_refl _⟩ dX12_likesIt_263 ?_
  cases h
  exact z_lret rfl dX12_likesIt_266
set_option maxHeartbeats 4000000 in
set_option maxRecDepth 100000 in
theorem tX12_likesIt_b97 (T : zT) (k0 : Nat) (x1 : Int32) (x2 : Int32) (x3 : Int32) (x4 : Int32) (x5 : Int32) (x6 : Int32) (x9 : Int32) (s0 : Int64) (s1 : Int32) (s2 : Nat) (m2 : Nat) (S : zS) (h0 : iX12 T k0) (g2 : zL T s2 21 m2) {g : zG} (r : (Int64 × zS)) (h : fX12_likesIt_b97 T k0 x1 x2 x3 x4 x5 x6 x9 s0 s1 s2 m2 S = some r)  : zg g 4 mX12_likesIt T 97 [some (.ref k0), some (.int x1), some (.int x2), some (.int x3), some (.int x4), some (.int x5), some (.int x6), none, none, some (.int x9), none, none] [.long s0, .int s1, .ref s2] T S (some (.long r.1)) T r.2 := by
  unfold fX12_likesIt_b97 at h
  obtain ⟨q20, h⟩ := zgd_elim h
  refine z_last g2 (zin_ok q20) dX12_likesIt_97 ?_
  obtain ⟨S21, eS21, h⟩ := zlet_elim h
  refine z_tS eS21 ?_
  refine z_aload_n dX12_likesIt_98 rfl ?_
  refine z_gA (zF.x zfX12_80) h0.1 dX12_likesIt_99 ?_
  refine z_iconst dX12_likesIt_102 cI_3 ?_
  refine z_iload dX12_likesIt_103 rfl ?_
  refine z_i2l dX12_likesIt_105 rfl ?_
  obtain ⟨q22, h⟩ := zgd_elim h
  refine z_last h0.2.2.2.2.2.2.2.2.2.2.2.2.2.2.2.2.2.2.2.2.2.2.2.2.1 (zin_ok q22) dX12_likesIt_106 ?_
  obtain ⟨S23, eS23, h⟩ := zlet_elim h
  refine z_tS eS23 ?_
  refine z_aload_n dX12_likesIt_107 rfl ?_
  refine z_gA (zF.x zfX12_80) h0.1 dX12_likesIt_108 ?_
  refine z_iconst dX12_likesIt_111 cI_4 ?_
  refine z_aload_n dX12_likesIt_112 rfl ?_
  refine z_gA (zF.x zfX12_62) h0.1 dX12_likesIt_113 ?_
  refine z_iload_n dX12_likesIt_116 rfl ?_
  obtain ⟨q24, h⟩ := zgd_elim h
  refine z_iald h0.2.2.2.2.2.2.2.2.2.2.2.2.2.2.2.2.2.2.1 (zin_ok q24) dX12_likesIt_117 ?_
  refine z_i2l dX12_likesIt_118 rfl ?_
  obtain ⟨q25, h⟩ := zgd_elim h
  refine z_last h0.2.2.2.2.2.2.2.2.2.2.2.2.2.2.2.2.2.2.2.2.2.2.2.2.1 (zin_ok q25) dX12_likesIt_119 ?_
  obtain ⟨S26, eS26, h⟩ := zlet_elim h
  refine z_tS eS26 ?_
  refine z_aload_n dX12_likesIt_120 rfl ?_
  refine z_gA (zF.x zfX12_80) h0.1 dX12_likesIt_121 ?_
  refine z_iconst dX12_likesIt_124 cI_5 ?_
  refine z_iload_n dX12_likesIt_125 rfl ?_
  refine z_i2l dX12_likesIt_126 rfl ?_
  obtain ⟨q27, h⟩ := zgd_elim h
  refine z_last h0.2.2.2.2.2.2.2.2.2.2.2.2.2.2.2.2.2.2.2.2.2.2.2.2.1 (zin_ok q27) dX12_likesIt_127 ?_
  obtain ⟨S28, eS28, h⟩ := zlet_elim h
  refine z_tS eS28 ?_
  refine z_aload_n dX12_likesIt_128 rfl ?_
  refine z_gA (zF.x zfX12_80) h0.1 dX12_likesIt_129 ?_
  refine z_bipush dX12_likesIt_132 cB_6 ?_
  refine z_iload dX12_likesIt_134 rfl ?_
  refine z_i2l dX12_likesIt_136 rfl ?_
  obtain ⟨q29, h⟩ := zgd_elim h
  refine z_last h0.2.2.2.2.2.2.2.2.2.2.2.2.2.2.2.2.2.2.2.2.2.2.2.2.1 (zin_ok q29) dX12_likesIt_137 ?_
  obtain ⟨S30, eS30, h⟩ := zlet_elim h
  refine z_tS eS30 ?_
  refine z_aload_n dX12_likesIt_138 rfl ?_
  refine z_gA (zF.x zfX12_80) h0.1 dX12_likesIt_139 ?_
  refine z_bipush dX12_likesIt_142 cB_7 ?_
  refine z_iload dX12_likesIt_144 rfl ?_
  obtain ⟨r31, hc32, h⟩ := zb1_elim h
  refine z_callS (As := [.int x4]) zkX12_357 zsX12_bits (tX12_bits T x4 S30  r31 hc32) rfl rfl (Nat.le_of_ble_eq_true rfl) (by decide) ⟨Nat.le_refl _, Nat.le_refl _⟩ ⟨Nat.le_refl _, Nat.le_refl _⟩ dX12_likesIt_146 ?_
  refine z_i2l dX12_likesIt_149 rfl ?_
  obtain ⟨q33, h⟩ := zgd_elim h
  refine z_last h0.2.2.2.2.2.2.2.2.2.2.2.2.2.2.2.2.2.2.2.2.2.2.2.2.1 (zin_ok q33) dX12_likesIt_150 ?_
  obtain ⟨S34, eS34, h⟩ := zlet_elim h
  refine z_tS eS34 ?_
  refine z_aload_n dX12_likesIt_151 rfl ?_
  refine z_gA (zF.x zfX12_80) h0.1 dX12_likesIt_152 ?_
  refine z_bipush dX12_likesIt_155 cB_8 ?_
  refine z_iload dX12_likesIt_157 rfl ?_
  obtain ⟨r35, hc36, h⟩ := zb1_elim h
  refine z_callS (As := [.int x5]) zkX12_357 zsX12_bits (tX12_bits T x5 S34  r35 hc36) rfl rfl (Nat.le_of_ble_eq_true rfl) (by decide) ⟨Nat.le_refl _, Nat.le_refl _⟩ ⟨Nat.le_refl _, Nat.le_refl _⟩ dX12_likesIt_159 ?_
  refine z_i2l dX12_likesIt_162 rfl ?_
  obtain ⟨q37, h⟩ := zgd_elim h
  refine z_last h0.2.2.2.2.2.2.2.2.2.2.2.2.2.2.2.2.2.2.2.2.2.2.2.2.1 (zin_ok q37) dX12_likesIt_163 ?_
  obtain ⟨S38, eS38, h⟩ := zlet_elim h
  refine z_tS eS38 ?_
  refine z_iconst dX12_likesIt_164 cI_2 ?_
  refine z_iload_n dX12_likesIt_165 rfl ?_
  refine z_iadd dX12_likesIt_166 rfl ?_
  obtain ⟨u39, eu39, h⟩ := zlet_elim h
  refine z_ti eu39 ?_
  refine z_istore dX12_likesIt_167 rfl (by decide) rfl ?_
  refine z_bipush dX12_likesIt_169 cB_24 ?_
  refine z_iload dX12_likesIt_171 rfl ?_
  refine z_imul dX12_likesIt_173 rfl ?_
  obtain ⟨u40, eu40, h⟩ := zlet_elim h
  refine z_ti eu40 ?_
  refine z_istore dX12_likesIt_174 rfl (by decide) rfl ?_
  obtain ⟨e55, hl61, h⟩ := zb1_elim h
  obtain ⟨nf62, hl61⟩ := lp_some hl61
  refine z_mask [true, false, false, false, false, false, false, false, false, false, true, true] rfl (tX12_likesIt_l176 T k0 u39 h0 nf62 (u40, S38) e55 hl61 (fun e55_0 q => ?_) (fun e55_1 q => ?_))
  · cases q
    replace h := zsm_l h
    refine z_lconst (r := 0) dX12_likesIt_273 rfl ?_
    cases h
    exact z_lret rfl dX12_likesIt_274
  · cases q
    replace h := zsm_r h
    exact z_mask [true, false, false, false, false, false, false, false, false, false, true, true] rfl (tX12_likesIt_b246 T k0 u39 e55_1.1 e55_1.2 h0 r h)
set_option maxHeartbeats 4000000 in
set_option maxRecDepth 100000 in
theorem tX12_likesIt (T : zT) (k0 : Nat) (x1 : Int32) (x2 : Int32) (x3 : Int32) (x4 : Int32) (x5 : Int32) (x6 : Int32) (S : zS) (h0 : iX12 T k0) (r : Int64 × zS) (h : fX12_likesIt T k0 x1 x2 x3 x4 x5 x6 S = some r) : zGM 4 mX12_likesIt [.ref k0, .int x1, .int x2, .int x3, .int x4, .int x5, .int x6] T S (some (.long r.1)) T r.2 := by
  refine zGM_of zpnX12 rfl (Nat.le_of_ble_eq_true rfl) (fun g => ?_)
  show zg g 4 mX12_likesIt T 0 [some (.ref k0), some (.int x1), some (.int x2), some (.int x3), some (.int x4), some (.int x5), some (.int x6), none, none, none, none, none] [] T S (some (.long r.1)) T r.2
  unfold fX12_likesIt at h
  refine z_iload dX12_likesIt_0 rfl ?_
  refine z_iconst dX12_likesIt_2 cI_1 ?_
  refine z_iload_n dX12_likesIt_3 rfl ?_
  refine z_ishl dX12_likesIt_4 rfl ?_
  refine z_ior dX12_likesIt_5 rfl ?_
  obtain ⟨u1, eu1, h⟩ := zlet_elim h
  refine z_ti eu1 ?_
  refine z_istore dX12_likesIt_6 rfl (by decide) rfl ?_
  refine z_iload dX12_likesIt_8 rfl ?_
  refine z_iconst dX12_likesIt_10 cI_1 ?_
  refine z_iload_n dX12_likesIt_11 rfl ?_
  refine z_ishl dX12_likesIt_12 rfl ?_
  refine z_iconst dX12_likesIt_13 cI_m1 ?_
  refine z_ixor dX12_likesIt_14 rfl ?_
  refine z_iand dX12_likesIt_15 rfl ?_
  obtain ⟨u2, eu2, h⟩ := zlet_elim h
  refine z_ti eu2 ?_
  refine z_istore dX12_likesIt_16 rfl (by decide) rfl ?_
  refine z_aload_n dX12_likesIt_18 rfl ?_
  refine z_iconst dX12_likesIt_19 cI_1 ?_
  refine z_iload dX12_likesIt_20 rfl ?_
  refine z_iload dX12_likesIt_22 rfl ?_
  refine z_iload_n dX12_likesIt_24 rfl ?_
  obtain ⟨r3, S5, hc4, h⟩ := zb_elim h
  refine z_callV (As := [.int 1, .int u1, .int u2, .int x3]) zcX12 zkX12_395 ziX12_comes zqX12_comes h0.1 (tX12_comes T k0 1 u1 u2 x3 S h0 (r3, S5) hc4) rfl rfl (Nat.le_of_ble_eq_true rfl) (by decide) ⟨Nat.le_refl _, Nat.le_refl _⟩ ⟨Nat.le_refl _, Nat.le_refl _⟩ dX12_likesIt_25 ?_
  refine z_aload_n dX12_likesIt_28 rfl ?_
  refine z_iconst dX12_likesIt_29 cI_1 ?_
  refine z_iload dX12_likesIt_30 rfl ?_
  refine z_iload dX12_likesIt_32 rfl ?_
  refine z_iload_n dX12_likesIt_34 rfl ?_
  obtain ⟨r6, S8, hc7, h⟩ := zb_elim h
  refine z_callV (As := [.int 1, .int x4, .int x5, .int x3]) zcX12 zkX12_395 ziX12_comes zqX12_comes h0.1 (tX12_comes T k0 1 x4 x5 x3 S5 h0 (r6, S8) hc7) rfl rfl (Nat.le_of_ble_eq_true rfl) (by decide) ⟨Nat.le_refl _, Nat.le_refl _⟩ ⟨Nat.le_refl _, Nat.le_refl _⟩ dX12_likesIt_35 ?_
  refine z_isub dX12_likesIt_38 rfl ?_
  obtain ⟨u9, eu9, h⟩ := zlet_elim h
  refine z_ti eu9 ?_
  refine z_istore dX12_likesIt_39 rfl (by decide) rfl ?_
  refine z_aload_n dX12_likesIt_41 rfl ?_
  refine z_gA (zF.x zfX12_80) h0.1 dX12_likesIt_42 ?_
  refine z_iconst dX12_likesIt_45 cI_0 ?_
  refine z_aload_n dX12_likesIt_46 rfl ?_
  refine z_iload_n dX12_likesIt_47 rfl ?_
  refine z_iload_n dX12_likesIt_48 rfl ?_
  obtain ⟨r10, hc11, h⟩ := zb1_elim h
  refine z_callV (As := [.int x2, .int x3]) zcX12 zkX12_385 ziX12_owedAtFirst zqX12_owedAtFirst h0.1 (tX12_owedAtFirst T k0 x2 x3 S8 h0 r10 hc11) rfl rfl (Nat.le_of_ble_eq_true rfl) (by decide) ⟨Nat.le_refl _, Nat.le_refl _⟩ ⟨Nat.le_refl _, Nat.le_refl _⟩ dX12_likesIt_49 ?_
  refine z_i2l dX12_likesIt_52 rfl ?_
  obtain ⟨q12, h⟩ := zgd_elim h
  refine z_last h0.2.2.2.2.2.2.2.2.2.2.2.2.2.2.2.2.2.2.2.2.2.2.2.2.1 (zin_ok q12) dX12_likesIt_53 ?_
  obtain ⟨S13, eS13, h⟩ := zlet_elim h
  refine z_tS eS13 ?_
  refine z_aload_n dX12_likesIt_54 rfl ?_
  refine z_gA (zF.x zfX12_80) h0.1 dX12_likesIt_55 ?_
  refine z_iconst dX12_likesIt_58 cI_1 ?_
  refine z_aload_n dX12_likesIt_59 rfl ?_
  refine z_gA (zF.x zfX12_50) h0.1 dX12_likesIt_60 ?_
  refine z_iload_n dX12_likesIt_63 rfl ?_
  obtain ⟨q14, h⟩ := zgd_elim h
  refine z_iald h0.2.2.2.2.2.2.2.2.2.2.2.2.2.2.1 (zin_ok q14) dX12_likesIt_64 ?_
  refine z_i2l dX12_likesIt_65 rfl ?_
  obtain ⟨q15, h⟩ := zgd_elim h
  refine z_last h0.2.2.2.2.2.2.2.2.2.2.2.2.2.2.2.2.2.2.2.2.2.2.2.2.1 (zin_ok q15) dX12_likesIt_66 ?_
  obtain ⟨S16, eS16, h⟩ := zlet_elim h
  refine z_tS eS16 ?_
  refine z_aload_n dX12_likesIt_67 rfl ?_
  refine z_gA (zF.x zfX12_80) h0.1 dX12_likesIt_68 ?_
  refine z_iconst dX12_likesIt_71 cI_2 ?_
  refine z_aload_n dX12_likesIt_72 rfl ?_
  refine z_gA (zF.x zfX12_53) h0.1 dX12_likesIt_73 ?_
  refine z_iload_n dX12_likesIt_76 rfl ?_
  obtain ⟨q17, h⟩ := zgd_elim h
  refine z_iald h0.2.2.2.2.2.2.2.2.2.2.2.2.2.2.2.1 (zin_ok q17) dX12_likesIt_77 ?_
  refine z_iconst dX12_likesIt_78 cI_m1 ?_
  refine z_icmp_ne (tgt := 88) dX12_likesIt_79 (by decide) (fun q18 => ?_) (fun q18 => ?_)
  · rw [if_neg q18] at h
    refine z_aload_n dX12_likesIt_88 rfl ?_
    refine z_gA (zF.x zfX12_53) h0.1 dX12_likesIt_89 ?_
    refine z_iload_n dX12_likesIt_92 rfl ?_
    obtain ⟨q19, h⟩ := zgd_elim h
    refine z_iald h0.2.2.2.2.2.2.2.2.2.2.2.2.2.2.2.1 (zin_ok q19) dX12_likesIt_93 ?_
    refine z_iload_n dX12_likesIt_94 rfl ?_
    refine z_isub dX12_likesIt_95 rfl ?_
    refine z_i2l dX12_likesIt_96 rfl ?_
    exact z_mask [true, true, true, true, true, true, true, false, false, true, false, false] rfl (tX12_likesIt_b97 T k0 x1 x2 x3 x4 x5 x6 u9 ((((S16.1 (zr T k0 25) (x2 : Int32).toNatClampNeg) - x3) : Int32).toInt64) 2 (zr T k0 34) 9 S16 h0 h0.2.2.2.2.2.2.2.2.2.2.2.2.2.2.2.2.2.2.2.2.2.2.2.2.1 r h)
  · rw [if_pos q18] at h
    refine z_ldc2 znX12_535 dX12_likesIt_82 ?_
    refine z_goto (tgt := 97) dX12_likesIt_85 (by decide) ?_
    exact z_mask [true, true, true, true, true, true, true, false, false, true, false, false] rfl (tX12_likesIt_b97 T k0 x1 x2 x3 x4 x5 x6 u9 9999 2 (zr T k0 34) 9 S16 h0 h0.2.2.2.2.2.2.2.2.2.2.2.2.2.2.2.2.2.2.2.2.2.2.2.2.1 r h)
/-! X12_most -/
noncomputable def fX12_most_b24 (T : zT)  (S : zS) : Option (Int32 × zS) :=
  some ((-1), S)
noncomputable def fX12_most_b101 (T : zT) (k0 : Nat) (x1 : Int32) (x2 : Int32) (x3 : Int32) (x4 : Int32) (x5 : Int32) (S : zS) : Option ((Int32 × Int32 × Int32 × zS) ⊕ (Int32 × zS)) :=
  zlet (x5 + 1) fun u15 => some (.inl (x3, x4, u15, S))
noncomputable def fX12_most_b94 (T : zT) (k0 : Nat) (x1 : Int32) (x2 : Int32) (x5 : Int32) (x6 : Int32) (S : zS) : Option ((Int32 × Int32 × Int32 × zS) ⊕ (Int32 × zS)) :=
  fX12_most_b101 T k0 x1 x2 x5 x6 x5 S
noncomputable def fX12_most_l34 (T : zT) (k0 : Nat) (x1 : Int32) (x2 : Int32) (x3 : Int32) (x4 : Int32) (x5 : Int32) (S : zS) : Option ((Int32 × Int32 × Int32 × zS) ⊕ (Int32 × zS)) :=
  if 256 ≤ x5 then some (.inr (x3, S)) else zb1 (fX12_all T k0 S) fun r12 => if (x5 &&& (r12 ^^^ (-1))) = 0 then zb1 (fX12_bits T x5 S) fun r16 => if r16 = x2 then zb1 (fX12_all T k0 S) fun r19 => zb (fX12_comes T k0 1 x5 (r19 &&& (x5 ^^^ (-1))) x1 S) fun r21 S23 => if x3 = (-1) then fX12_most_b94 T k0 x1 x2 x5 r21 S23 else if r21 ≤ x4 then fX12_most_b101 T k0 x1 x2 x3 x4 x5 S23 else fX12_most_b94 T k0 x1 x2 x5 r21 S23 else fX12_most_b101 T k0 x1 x2 x3 x4 x5 S else fX12_most_b101 T k0 x1 x2 x3 x4 x5 S
noncomputable def fX12_most (T : zT) (k0 : Nat) (x1 : Int32) (x2 : Int32) (S : zS) : Option (Int32 × zS) :=
  zb1 (fX12_isWeek T x1 S) fun r1 => if r1 = 0 then fX12_most_b24 T  S else zb1 (fX12_all T k0 S) fun r4 => zb1 (fX12_bits T r4 S) fun r6 => zb1 (fX12_in T ((x2 : Int32).toInt64) 0 ((r6 : Int32).toInt64) S) fun r8 => if r8 = 0 then fX12_most_b24 T  S else zb1 (lp (fun a => fX12_most_l34 T k0 x1 x2 a.1 a.2.1 a.2.2.1 a.2.2.2) ((-1), 0, 0, S)) fun e26 => some (e26.1, e26.2)
set_option maxHeartbeats 4000000 in
set_option maxRecDepth 100000 in
theorem tX12_most_b24 (T : zT)  (S : zS)  {g : zG} (r : (Int32 × zS)) (h : fX12_most_b24 T  S = some r)  : zg g 4 mX12_most T 24 [none, none, none, none, none, none, none] [] T S (some (.int r.1)) T r.2 := by
  unfold fX12_most_b24 at h
  refine z_iconst dX12_most_24 cI_m1 ?_
  cases h
  exact z_iret rfl dX12_most_25
set_option maxHeartbeats 4000000 in
set_option maxRecDepth 100000 in
theorem tX12_most_b101 (T : zT) (k0 : Nat) (x1 : Int32) (x2 : Int32) (x3 : Int32) (x4 : Int32) (x5 : Int32) (S : zS) (h0 : iX12 T k0) {g : zG} {v : Option Value} {S' : zS} (r : ((Int32 × Int32 × Int32 × zS) ⊕ (Int32 × zS))) (h : fX12_most_b101 T k0 x1 x2 x3 x4 x5 S = some r) (K1 : ∀ a : (Int32 × Int32 × Int32 × zS), r = .inl a → zg g 4 mX12_most T 34 [some (.ref k0), some (.int x1), some (.int x2), some (.int a.1), some (.int a.2.1), some (.int a.2.2.1), none] [] T a.2.2.2 v T S') (K2_0 : ∀ e : (Int32 × zS), r = .inr e → zg g 4 mX12_most T 107 [none, none, none, some (.int e.1), none, none, none] [] T e.2 v T S') : zg g 4 mX12_most T 101 [some (.ref k0), some (.int x1), some (.int x2), some (.int x3), some (.int x4), some (.int x5), none] [] T S v T S' := by
  unfold fX12_most_b101 at h
  obtain ⟨u15, eu15, h⟩ := zlet_elim h
  refine z_iinc (r := u15) dX12_most_101 rfl (by rw [eu15, cI_1]) rfl (by decide) rfl ?_
  refine z_goto (tgt := 34) dX12_most_104 (by decide) ?_
  cases h
  exact z_mask [true, true, true, true, true, true, false] rfl (K1 _ rfl)
set_option maxHeartbeats 4000000 in
set_option maxRecDepth 100000 in
theorem tX12_most_b94 (T : zT) (k0 : Nat) (x1 : Int32) (x2 : Int32) (x5 : Int32) (x6 : Int32) (S : zS) (h0 : iX12 T k0) {g : zG} {v : Option Value} {S' : zS} (r : ((Int32 × Int32 × Int32 × zS) ⊕ (Int32 × zS))) (h : fX12_most_b94 T k0 x1 x2 x5 x6 S = some r) (K1 : ∀ a : (Int32 × Int32 × Int32 × zS), r = .inl a → zg g 4 mX12_most T 34 [some (.ref k0), some (.int x1), some (.int x2), some (.int a.1), some (.int a.2.1), some (.int a.2.2.1), none] [] T a.2.2.2 v T S') (K2_0 : ∀ e : (Int32 × zS), r = .inr e → zg g 4 mX12_most T 107 [none, none, none, some (.int e.1), none, none, none] [] T e.2 v T S') : zg g 4 mX12_most T 94 [some (.ref k0), some (.int x1), some (.int x2), none, none, some (.int x5), some (.int x6)] [] T S v T S' := by
  unfold fX12_most_b94 at h
  refine z_iload dX12_most_94 rfl ?_
  refine z_istore_n dX12_most_96 rfl (by decide) rfl ?_
  refine z_iload dX12_most_97 rfl ?_
  refine z_istore dX12_most_99 rfl (by decide) rfl ?_
  exact z_mask [true, true, true, true, true, true, false] rfl (tX12_most_b101 T k0 x1 x2 x5 x6 x5 S h0 r h K1 K2_0)
set_option maxHeartbeats 4000000 in
set_option maxRecDepth 100000 in
theorem tX12_most_l34b (T : zT) (k0 : Nat) (x1 : Int32) (x2 : Int32) (x3 : Int32) (x4 : Int32) (x5 : Int32) (S : zS) (h0 : iX12 T k0) {g : zG} {v : Option Value} {S' : zS} (r : (Int32 × Int32 × Int32 × zS) ⊕ (Int32 × zS)) (h : fX12_most_l34 T k0 x1 x2 x3 x4 x5 S = some r) (K1 : ∀ a : (Int32 × Int32 × Int32 × zS), r = .inl a → zg g 4 mX12_most T 34 [some (.ref k0), some (.int x1), some (.int x2), some (.int a.1), some (.int a.2.1), some (.int a.2.2.1), none] [] T a.2.2.2 v T S') (K2_0 : ∀ e : (Int32 × zS), r = .inr e → zg g 4 mX12_most T 107 [none, none, none, some (.int e.1), none, none, none] [] T e.2 v T S') : zg g 4 mX12_most T 34 [some (.ref k0), some (.int x1), some (.int x2), some (.int x3), some (.int x4), some (.int x5), none] [] T S v T S' := by
  unfold fX12_most_l34 at h
  refine z_iload dX12_most_34 rfl ?_
  refine z_sipush dX12_most_36 cS_256 ?_
  refine z_icmp_ge (tgt := 107) dX12_most_39 (by decide) (fun q11 => ?_) (fun q11 => ?_)
  · rw [if_pos q11] at h
    cases h
    exact z_mask [false, false, false, true, false, false, false] rfl (K2_0 _ rfl)
  · rw [if_neg q11] at h
    refine z_iload dX12_most_42 rfl ?_
    refine z_aload_n dX12_most_44 rfl ?_
    obtain ⟨r12, hc13, h⟩ := zb1_elim h
    refine z_callV (As := []) zcX12 zkX12_354 ziX12_all zqX12_all h0.1 (tX12_all T k0 S h0 r12 hc13) rfl rfl (Nat.le_of_ble_eq_true rfl) (by decide) ⟨Nat.le_refl _, Nat.le_refl _⟩ ⟨Nat.le_refl _, Nat.le_refl _⟩ dX12_most_45 ?_
    refine z_iconst dX12_most_48 cI_m1 ?_
    refine z_ixor dX12_most_49 rfl ?_
    refine z_iand dX12_most_50 rfl ?_
    refine z_if_ne (tgt := 101) dX12_most_51 (by decide) (fun q14 => ?_) (fun q14 => ?_)
    · rw [if_neg q14] at h
      exact z_mask [true, true, true, true, true, true, false] rfl (tX12_most_b101 T k0 x1 x2 x3 x4 x5 S h0 r h K1 K2_0)
    · rw [if_pos q14] at h
      refine z_iload dX12_most_54 rfl ?_
      obtain ⟨r16, hc17, h⟩ := zb1_elim h
      refine z_callS (As := [.int x5]) zkX12_357 zsX12_bits (tX12_bits T x5 S  r16 hc17) rfl rfl (Nat.le_of_ble_eq_true rfl) (by decide) ⟨Nat.le_refl _, Nat.le_refl _⟩ ⟨Nat.le_refl _, Nat.le_refl _⟩ dX12_most_56 ?_
      refine z_iload_n dX12_most_59 rfl ?_
      refine z_icmp_ne (tgt := 101) dX12_most_60 (by decide) (fun q18 => ?_) (fun q18 => ?_)
      · rw [if_neg q18] at h
        exact z_mask [true, true, true, true, true, true, false] rfl (tX12_most_b101 T k0 x1 x2 x3 x4 x5 S h0 r h K1 K2_0)
      · rw [if_pos q18] at h
        refine z_aload_n dX12_most_63 rfl ?_
        refine z_iconst dX12_most_64 cI_1 ?_
        refine z_iload dX12_most_65 rfl ?_
        refine z_aload_n dX12_most_67 rfl ?_
        obtain ⟨r19, hc20, h⟩ := zb1_elim h
        refine z_callV (As := []) zcX12 zkX12_354 ziX12_all zqX12_all h0.1 (tX12_all T k0 S h0 r19 hc20) rfl rfl (Nat.le_of_ble_eq_true rfl) (by decide) ⟨Nat.le_refl _, Nat.le_refl _⟩ ⟨Nat.le_refl _, Nat.le_refl _⟩ dX12_most_68 ?_
        refine z_iload dX12_most_71 rfl ?_
        refine z_iconst dX12_most_73 cI_m1 ?_
        refine z_ixor dX12_most_74 rfl ?_
        refine z_iand dX12_most_75 rfl ?_
        refine z_iload_n dX12_most_76 rfl ?_
        obtain ⟨r21, S23, hc22, h⟩ := zb_elim h
        refine z_callV (As := [.int 1, .int x5, .int (r19 &&& (x5 ^^^ (-1))), .int x1]) zcX12 zkX12_395 ziX12_comes zqX12_comes h0.1 (tX12_comes T k0 1 x5 (r19 &&& (x5 ^^^ (-1))) x1 S h0 (r21, S23) hc22) rfl rfl (Nat.le_of_ble_eq_true rfl) (by decide) ⟨Nat.le_refl _, Nat.le_refl _⟩ ⟨Nat.le_refl _, Nat.le_refl _⟩ dX12_most_77 ?_
        refine z_istore dX12_most_80 rfl (by decide) rfl ?_
        refine z_iload_n dX12_most_82 rfl ?_
        refine z_iconst dX12_most_83 cI_m1 ?_
        refine z_icmp_eq (tgt := 94) dX12_most_84 (by decide) (fun q24 => ?_) (fun q24 => ?_)
        · rw [if_pos q24] at h
          exact z_mask [true, true, true, false, false, true, true] rfl (tX12_most_b94 T k0 x1 x2 x5 r21 S23 h0 r h K1 K2_0)
        · rw [if_neg q24] at h
          refine z_iload dX12_most_87 rfl ?_
          refine z_iload dX12_most_89 rfl ?_
          refine z_icmp_le (tgt := 101) dX12_most_91 (by decide) (fun q25 => ?_) (fun q25 => ?_)
          · rw [if_pos q25] at h
            exact z_mask [true, true, true, true, true, true, false] rfl (tX12_most_b101 T k0 x1 x2 x3 x4 x5 S23 h0 r h K1 K2_0)
          · rw [if_neg q25] at h
            exact z_mask [true, true, true, false, false, true, true] rfl (tX12_most_b94 T k0 x1 x2 x5 r21 S23 h0 r h K1 K2_0)
set_option maxHeartbeats 4000000 in
set_option maxRecDepth 100000 in
theorem tX12_most_l34 (T : zT) (k0 : Nat) (x1 : Int32) (x2 : Int32) (h0 : iX12 T k0) {g : zG} {v : Option Value} {S' : zS} : ∀ (n : Nat) (a : (Int32 × Int32 × Int32 × zS)) (e : (Int32 × zS)), lpn (fun a => fX12_most_l34 T k0 x1 x2 a.1 a.2.1 a.2.2.1 a.2.2.2) n a = some e → (∀ e1 : (Int32 × zS), e = e1 → zg g 4 mX12_most T 107 [none, none, none, some (.int e1.1), none, none, none] [] T e1.2 v T S') → zg g 4 mX12_most T 34 [some (.ref k0), some (.int x1), some (.int x2), some (.int a.1), some (.int a.2.1), some (.int a.2.2.1), none] [] T a.2.2.2 v T S' := by
  intro n
  induction n with
  | zero =>
    intro a e h
    cases h
  | succ n ih =>
    intro a e h k0_
    rcases lpn_succ h with ⟨a1, ha_, hb_⟩ | ha_
    · exact tX12_most_l34b T k0 x1 x2 a.1 a.2.1 a.2.2.1 a.2.2.2 h0 _ ha_ (fun a2 q => by cases q; exact ih a1 e hb_ k0_) (fun e1 q => by cases q)
    · exact tX12_most_l34b T k0 x1 x2 a.1 a.2.1 a.2.2.1 a.2.2.2 h0 _ ha_ (fun a2 q => by cases q) (fun e1 q => by cases q; exact k0_ _ rfl)
set_option maxHeartbeats 4000000 in
set_option maxRecDepth 100000 in
theorem tX12_most (T : zT) (k0 : Nat) (x1 : Int32) (x2 : Int32) (S : zS) (h0 : iX12 T k0) (r : Int32 × zS) (h : fX12_most T k0 x1 x2 S = some r) : zGM 4 mX12_most [.ref k0, .int x1, .int x2] T S (some (.int r.1)) T r.2 := by
  refine zGM_of zpnX12 rfl (Nat.le_of_ble_eq_true rfl) (fun g => ?_)
  show zg g 4 mX12_most T 0 [some (.ref k0), some (.int x1), some (.int x2), none, none, none, none] [] T S (some (.int r.1)) T r.2
  unfold fX12_most at h
  refine z_iload_n dX12_most_0 rfl ?_
  obtain ⟨r1, hc2, h⟩ := zb1_elim h
  refine z_callS (As := [.int x1]) zkX12_382 zsX12_isWeek (tX12_isWeek T x1 S  r1 hc2) rfl rfl (Nat.le_of_ble_eq_true rfl) (by decide) ⟨Nat.le_refl _, Nat.le_refl _⟩ ⟨Nat.le_refl _, Nat.le_refl _⟩ dX12_most_1 ?_
  refine z_if_eq (tgt := 24) dX12_most_4 (by decide) (fun q3 => ?_) (fun q3 => ?_)
  · rw [if_pos q3] at h
    exact z_mask [false, false, false, false, false, false, false] rfl (tX12_most_b24 T  S  r h)
  · rw [if_neg q3] at h
    refine z_iload_n dX12_most_7 rfl ?_
    refine z_i2l dX12_most_8 rfl ?_
    refine z_lconst (r := 0) dX12_most_9 rfl ?_
    refine z_aload_n dX12_most_10 rfl ?_
    obtain ⟨r4, hc5, h⟩ := zb1_elim h
    refine z_callV (As := []) zcX12 zkX12_354 ziX12_all zqX12_all h0.1 (tX12_all T k0 S h0 r4 hc5) rfl rfl (Nat.le_of_ble_eq_true rfl) (by decide) ⟨Nat.le_refl _, Nat.le_refl _⟩ ⟨Nat.le_refl _, Nat.le_refl _⟩ dX12_most_11 ?_
    obtain ⟨r6, hc7, h⟩ := zb1_elim h
    refine z_callS (As := [.int r4]) zkX12_357 zsX12_bits (tX12_bits T r4 S  r6 hc7) rfl rfl (Nat.le_of_ble_eq_true rfl) (by decide) ⟨Nat.le_refl _, Nat.le_refl _⟩ ⟨Nat.le_refl _, Nat.le_refl _⟩ dX12_most_14 ?_
    refine z_i2l dX12_most_17 rfl ?_
    obtain ⟨r8, hc9, h⟩ := zb1_elim h
    refine z_callS (As := [.long ((x2 : Int32).toInt64), .long 0, .long ((r6 : Int32).toInt64)]) zkX12_201 zsX12_in (tX12_in T ((x2 : Int32).toInt64) 0 ((r6 : Int32).toInt64) S  r8 hc9) rfl rfl (Nat.le_of_ble_eq_true rfl) (by decide) ⟨Nat.le_refl _, Nat.le_refl _⟩ ⟨Nat.le_refl _, Nat.le_refl _⟩ dX12_most_18 ?_
    refine z_if_ne (tgt := 26) dX12_most_21 (by decide) (fun q10 => ?_) (fun q10 => ?_)
    · rw [if_neg q10] at h
      refine z_iconst dX12_most_26 cI_m1 ?_
      refine z_istore_n dX12_most_27 rfl (by decide) rfl ?_
      refine z_iconst dX12_most_28 cI_0 ?_
      refine z_istore dX12_most_29 rfl (by decide) rfl ?_
      refine z_iconst dX12_most_31 cI_0 ?_
      refine z_istore dX12_most_32 rfl (by decide) rfl ?_
      obtain ⟨e26, hl27, h⟩ := zb1_elim h
      obtain ⟨nf28, hl27⟩ := lp_some hl27
      refine z_mask [true, true, true, true, true, true, false] rfl (tX12_most_l34 T k0 x1 x2 h0 nf28 ((-1), 0, 0, S) e26 hl27 (fun e_ q => ?_))
      · cases q
        refine z_iload_n dX12_most_107 rfl ?_
        cases h
        exact z_iret rfl dX12_most_108
    · rw [if_pos q10] at h
      exact z_mask [false, false, false, false, false, false, false] rfl (tX12_most_b24 T  S  r h)
/-! X12_pays -/
noncomputable def fX12_pays_b31 (T : zT)  (S : zS) : Option (Int32 × zS) :=
  some ((-1), S)
noncomputable def fX12_pays_l48 (T : zT) (k0 : Nat) (x1 : Int32) (x2 : Int32) (x3 : Int32) (x4 : Int32) (x5 : Int32) (x6 : Int32) (S : zS) : Option ((Int32 × Int32 × zS) ⊕ (zS ⊕ (Int32 × zS))) :=
  if 200 ≤ x6 then some (.inr (.inl S)) else zb1 (fX12_all T k0 S) fun r13 => zb (fX12_comes T k0 1 x2 (r13 &&& (x2 ^^^ (-1))) (x3 + x6) S) fun r15 S17 => zb1 (fX12_all T k0 S17) fun r18 => zb (fX12_comes T k0 1 x4 (r18 &&& (x4 ^^^ (-1))) (x3 + x6) S17) fun r20 S22 => zlet (x5 + (r15 - r20)) fun u23 => zb1 (fX12_owedAtFirst T k0 x1 x3 S22) fun r24 => if u23 < r24 then zlet (x6 + 1) fun u27 => some (.inl (u23, u27, S22)) else some (.inr (.inr (x6, S22)))
noncomputable def fX12_pays (T : zT) (k0 : Nat) (x1 : Int32) (x2 : Int32) (x3 : Int32) (S : zS) : Option (Int32 × zS) :=
  zb1 (fX12_has T k0 x1 S) fun r1 => if r1 = 0 then fX12_pays_b31 T  S else zb1 (fX12_isSet T k0 x2 S) fun r4 => if r4 = 0 then fX12_pays_b31 T  S else if ((x2 >>> (x1 &&& 31)) &&& 1) = 0 then fX12_pays_b31 T  S else zb1 (fX12_isWeek T x3 S) fun r8 => if r8 = 0 then fX12_pays_b31 T  S else zlet (x2 &&& ((1 <<< (x1 &&& 31)) ^^^ (-1))) fun u11 => zb1 (lp (fun a => fX12_pays_l48 T k0 x1 x2 x3 u11 a.1 a.2.1 a.2.2) (0, 0, S)) fun e28 => zsm e28 (fun e28_0 => some ((-2), e28_0)) (fun e28_1 => some ((e28_1.1 + 1), e28_1.2))
set_option maxHeartbeats 4000000 in
set_option maxRecDepth 100000 in
theorem tX12_pays_b31 (T : zT)  (S : zS)  {g : zG} (r : (Int32 × zS)) (h : fX12_pays_b31 T  S = some r)  : zg g 4 mX12_pays T 31 [none, none, none, none, none, none, none] [] T S (some (.int r.1)) T r.2 := by
  unfold fX12_pays_b31 at h
  refine z_iconst dX12_pays_31 cI_m1 ?_
  cases h
  exact z_iret rfl dX12_pays_32
set_option maxHeartbeats 4000000 in
set_option maxRecDepth 100000 in
theorem tX12_pays_l48b (T : zT) (k0 : Nat) (x1 : Int32) (x2 : Int32) (x3 : Int32) (x4 : Int32) (x5 : Int32) (x6 : Int32) (S : zS) (h0 : iX12 T k0) {g : zG} {v : Option Value} {S' : zS} (r : (Int32 × Int32 × zS) ⊕ (zS ⊕ (Int32 × zS))) (h : fX12_pays_l48 T k0 x1 x2 x3 x4 x5 x6 S = some r) (K1 : ∀ a : (Int32 × Int32 × zS), r = .inl a → zg g 4 mX12_pays T 48 [some (.ref k0), some (.int x1), some (.int x2), some (.int x3), some (.int x4), some (.int a.1), some (.int a.2.1)] [] T a.2.2 v T S') (K2_0 : ∀ e : zS, r = .inr (.inl e) → zg g 4 mX12_pays T 122 [none, none, none, none, none, none, none] [] T e v T S') (K2_1 : ∀ e : (Int32 × zS), r = .inr (.inr e) → zg g 4 mX12_pays T 111 [none, none, none, none, none, none, some (.int e.1)] [] T e.2 v T S') : zg g 4 mX12_pays T 48 [some (.ref k0), some (.int x1), some (.int x2), some (.int x3), some (.int x4), some (.int x5), some (.int x6)] [] T S v T S' := by
  unfold fX12_pays_l48 at h
  refine z_iload dX12_pays_48 rfl ?_
  refine z_sipush dX12_pays_50 cS_200 ?_
  refine z_icmp_ge (tgt := 122) dX12_pays_53 (by decide) (fun q12 => ?_) (fun q12 => ?_)
  · rw [if_pos q12] at h
    cases h
    exact z_mask [false, false, false, false, false, false, false] rfl (K2_0 _ rfl)
  · rw [if_neg q12] at h
    refine z_iload dX12_pays_56 rfl ?_
    refine z_aload_n dX12_pays_58 rfl ?_
    refine z_iconst dX12_pays_59 cI_1 ?_
    refine z_iload_n dX12_pays_60 rfl ?_
    refine z_aload_n dX12_pays_61 rfl ?_
    obtain ⟨r13, hc14, h⟩ := zb1_elim h
    refine z_callV (As := []) zcX12 zkX12_354 ziX12_all zqX12_all h0.1 (tX12_all T k0 S h0 r13 hc14) rfl rfl (Nat.le_of_ble_eq_true rfl) (by decide) ⟨Nat.le_refl _, Nat.le_refl _⟩ ⟨Nat.le_refl _, Nat.le_refl _⟩ dX12_pays_62 ?_
    refine z_iload_n dX12_pays_65 rfl ?_
    refine z_iconst dX12_pays_66 cI_m1 ?_
    refine z_ixor dX12_pays_67 rfl ?_
    refine z_iand dX12_pays_68 rfl ?_
    refine z_iload_n dX12_pays_69 rfl ?_
    refine z_iload dX12_pays_70 rfl ?_
    refine z_iadd dX12_pays_72 rfl ?_
    obtain ⟨r15, S17, hc16, h⟩ := zb_elim h
    refine z_callV (As := [.int 1, .int x2, .int (r13 &&& (x2 ^^^ (-1))), .int (x3 + x6)]) zcX12 zkX12_395 ziX12_comes zqX12_comes h0.1 (tX12_comes T k0 1 x2 (r13 &&& (x2 ^^^ (-1))) (x3 + x6) S h0 (r15, S17) hc16) rfl rfl (Nat.le_of_ble_eq_true rfl) (by decide) ⟨Nat.le_refl _, Nat.le_refl _⟩ ⟨Nat.le_refl _, Nat.le_refl _⟩ dX12_pays_73 ?_
    refine z_aload_n dX12_pays_76 rfl ?_
    refine z_iconst dX12_pays_77 cI_1 ?_
    refine z_iload dX12_pays_78 rfl ?_
    refine z_aload_n dX12_pays_80 rfl ?_
    obtain ⟨r18, hc19, h⟩ := zb1_elim h
    refine z_callV (As := []) zcX12 zkX12_354 ziX12_all zqX12_all h0.1 (tX12_all T k0 S17 h0 r18 hc19) rfl rfl (Nat.le_of_ble_eq_true rfl) (by decide) ⟨Nat.le_refl _, Nat.le_refl _⟩ ⟨Nat.le_refl _, Nat.le_refl _⟩ dX12_pays_81 ?_
    refine z_iload dX12_pays_84 rfl ?_
    refine z_iconst dX12_pays_86 cI_m1 ?_
    refine z_ixor dX12_pays_87 rfl ?_
    refine z_iand dX12_pays_88 rfl ?_
    refine z_iload_n dX12_pays_89 rfl ?_
    refine z_iload dX12_pays_90 rfl ?_
    refine z_iadd dX12_pays_92 rfl ?_
    obtain ⟨r20, S22, hc21, h⟩ := zb_elim h
    refine z_callV (As := [.int 1, .int x4, .int (r18 &&& (x4 ^^^ (-1))), .int (x3 + x6)]) zcX12 zkX12_395 ziX12_comes zqX12_comes h0.1 (tX12_comes T k0 1 x4 (r18 &&& (x4 ^^^ (-1))) (x3 + x6) S17 h0 (r20, S22) hc21) rfl rfl (Nat.le_of_ble_eq_true rfl) (by decide) ⟨Nat.le_refl _, Nat.le_refl _⟩ ⟨Nat.le_refl _, Nat.le_refl _⟩ dX12_pays_93 ?_
    refine z_isub dX12_pays_96 rfl ?_
    refine z_iadd dX12_pays_97 rfl ?_
    obtain ⟨u23, eu23, h⟩ := zlet_elim h
    refine z_ti eu23 ?_
    refine z_istore dX12_pays_98 rfl (by decide) rfl ?_
    refine z_iload dX12_pays_100 rfl ?_
    refine z_aload_n dX12_pays_102 rfl ?_
    refine z_iload_n dX12_pays_103 rfl ?_
    refine z_iload_n dX12_pays_104 rfl ?_
    obtain ⟨r24, hc25, h⟩ := zb1_elim h
    refine z_callV (As := [.int x1, .int x3]) zcX12 zkX12_385 ziX12_owedAtFirst zqX12_owedAtFirst h0.1 (tX12_owedAtFirst T k0 x1 x3 S22 h0 r24 hc25) rfl rfl (Nat.le_of_ble_eq_true rfl) (by decide) ⟨Nat.le_refl _, Nat.le_refl _⟩ ⟨Nat.le_refl _, Nat.le_refl _⟩ dX12_pays_105 ?_
    refine z_icmp_lt (tgt := 116) dX12_pays_108 (by decide) (fun q26 => ?_) (fun q26 => ?_)
    · rw [if_pos q26] at h
      obtain ⟨u27, eu27, h⟩ := zlet_elim h
      refine z_iinc (r := u27) dX12_pays_116 rfl (by rw [eu27, cI_1]) rfl (by decide) rfl ?_
      refine z_goto (tgt := 48) dX12_pays_119 (by decide) ?_
      cases h
      exact z_mask [true, true, true, true, true, true, true] rfl (K1 _ rfl)
    · rw [if_neg q26] at h
      cases h
      exact z_mask [false, false, false, false, false, false, true] rfl (K2_1 _ rfl)
set_option maxHeartbeats 4000000 in
set_option maxRecDepth 100000 in
theorem tX12_pays_l48 (T : zT) (k0 : Nat) (x1 : Int32) (x2 : Int32) (x3 : Int32) (x4 : Int32) (h0 : iX12 T k0) {g : zG} {v : Option Value} {S' : zS} : ∀ (n : Nat) (a : (Int32 × Int32 × zS)) (e : (zS ⊕ (Int32 × zS))), lpn (fun a => fX12_pays_l48 T k0 x1 x2 x3 x4 a.1 a.2.1 a.2.2) n a = some e → (∀ e1 : zS, e = (.inl e1) → zg g 4 mX12_pays T 122 [none, none, none, none, none, none, none] [] T e1 v T S') → (∀ e1 : (Int32 × zS), e = (.inr e1) → zg g 4 mX12_pays T 111 [none, none, none, none, none, none, some (.int e1.1)] [] T e1.2 v T S') → zg g 4 mX12_pays T 48 [some (.ref k0), some (.int x1), some (.int x2), some (.int x3), some (.int x4), some (.int a.1), some (.int a.2.1)] [] T a.2.2 v T S' := by
  intro n
  induction n with
  | zero =>
    intro a e h
    cases h
  | succ n ih =>
    intro a e h k0_ k1_
    rcases lpn_succ h with ⟨a1, ha_, hb_⟩ | ha_
    · exact tX12_pays_l48b T k0 x1 x2 x3 x4 a.1 a.2.1 a.2.2 h0 _ ha_ (fun a2 q => by cases q; exact ih a1 e hb_ k0_ k1_) (fun e1 q => by cases q) (fun e1 q => by cases q)
    · exact tX12_pays_l48b T k0 x1 x2 x3 x4 a.1 a.2.1 a.2.2 h0 _ ha_ (fun a2 q => by cases q) (fun e1 q => by cases q; exact k0_ _ rfl) (fun e1 q => by cases q; exact k1_ _ rfl)
set_option maxHeartbeats 4000000 in
set_option maxRecDepth 100000 in
theorem tX12_pays (T : zT) (k0 : Nat) (x1 : Int32) (x2 : Int32) (x3 : Int32) (S : zS) (h0 : iX12 T k0) (r : Int32 × zS) (h : fX12_pays T k0 x1 x2 x3 S = some r) : zGM 4 mX12_pays [.ref k0, .int x1, .int x2, .int x3] T S (some (.int r.1)) T r.2 := by
  refine zGM_of zpnX12 rfl (Nat.le_of_ble_eq_true rfl) (fun g => ?_)
  show zg g 4 mX12_pays T 0 [some (.ref k0), some (.int x1), some (.int x2), some (.int x3), none, none, none] [] T S (some (.int r.1)) T r.2
  unfold fX12_pays at h
  refine z_aload_n dX12_pays_0 rfl ?_
  refine z_iload_n dX12_pays_1 rfl ?_
  obtain ⟨r1, hc2, h⟩ := zb1_elim h
  refine z_callV (As := [.int x1]) zcX12 zkX12_375 ziX12_has zqX12_has h0.1 (tX12_has T k0 x1 S h0 r1 hc2) rfl rfl (Nat.le_of_ble_eq_true rfl) (by decide) ⟨Nat.le_refl _, Nat.le_refl _⟩ ⟨Nat.le_refl _, Nat.le_refl _⟩ dX12_pays_2 ?_
  refine z_if_eq (tgt := 31) dX12_pays_5 (by decide) (fun q3 => ?_) (fun q3 => ?_)
  · rw [if_pos q3] at h
    exact z_mask [false, false, false, false, false, false, false] rfl (tX12_pays_b31 T  S  r h)
  · rw [if_neg q3] at h
    refine z_aload_n dX12_pays_8 rfl ?_
    refine z_iload_n dX12_pays_9 rfl ?_
    obtain ⟨r4, hc5, h⟩ := zb1_elim h
    refine z_callV (As := [.int x2]) zcX12 zkX12_392 ziX12_isSet zqX12_isSet h0.1 (tX12_isSet T k0 x2 S h0 r4 hc5) rfl rfl (Nat.le_of_ble_eq_true rfl) (by decide) ⟨Nat.le_refl _, Nat.le_refl _⟩ ⟨Nat.le_refl _, Nat.le_refl _⟩ dX12_pays_10 ?_
    refine z_if_eq (tgt := 31) dX12_pays_13 (by decide) (fun q6 => ?_) (fun q6 => ?_)
    · rw [if_pos q6] at h
      exact z_mask [false, false, false, false, false, false, false] rfl (tX12_pays_b31 T  S  r h)
    · rw [if_neg q6] at h
      refine z_iload_n dX12_pays_16 rfl ?_
      refine z_iload_n dX12_pays_17 rfl ?_
      refine z_ishr dX12_pays_18 rfl ?_
      refine z_iconst dX12_pays_19 cI_1 ?_
      refine z_iand dX12_pays_20 rfl ?_
      refine z_if_eq (tgt := 31) dX12_pays_21 (by decide) (fun q7 => ?_) (fun q7 => ?_)
      · rw [if_pos q7] at h
        exact z_mask [false, false, false, false, false, false, false] rfl (tX12_pays_b31 T  S  r h)
      · rw [if_neg q7] at h
        refine z_iload_n dX12_pays_24 rfl ?_
        obtain ⟨r8, hc9, h⟩ := zb1_elim h
        refine z_callS (As := [.int x3]) zkX12_382 zsX12_isWeek (tX12_isWeek T x3 S  r8 hc9) rfl rfl (Nat.le_of_ble_eq_true rfl) (by decide) ⟨Nat.le_refl _, Nat.le_refl _⟩ ⟨Nat.le_refl _, Nat.le_refl _⟩ dX12_pays_25 ?_
        refine z_if_ne (tgt := 33) dX12_pays_28 (by decide) (fun q10 => ?_) (fun q10 => ?_)
        · rw [if_neg q10] at h
          refine z_iload_n dX12_pays_33 rfl ?_
          refine z_iconst dX12_pays_34 cI_1 ?_
          refine z_iload_n dX12_pays_35 rfl ?_
          refine z_ishl dX12_pays_36 rfl ?_
          refine z_iconst dX12_pays_37 cI_m1 ?_
          refine z_ixor dX12_pays_38 rfl ?_
          refine z_iand dX12_pays_39 rfl ?_
          obtain ⟨u11, eu11, h⟩ := zlet_elim h
          refine z_ti eu11 ?_
          refine z_istore dX12_pays_40 rfl (by decide) rfl ?_
          refine z_iconst dX12_pays_42 cI_0 ?_
          refine z_istore dX12_pays_43 rfl (by decide) rfl ?_
          refine z_iconst dX12_pays_45 cI_0 ?_
          refine z_istore dX12_pays_46 rfl (by decide) rfl ?_
          obtain ⟨e28, hl29, h⟩ := zb1_elim h
          obtain ⟨nf30, hl29⟩ := lp_some hl29
          refine z_mask [true, true, true, true, true, true, true] rfl (tX12_pays_l48 T k0 x1 x2 x3 u11 h0 nf30 (0, 0, S) e28 hl29 (fun e28_0 q => ?_) (fun e28_1 q => ?_))
          · cases q
            replace h := zsm_l h
            refine z_bipush dX12_pays_122 cB_m2 ?_
            cases h
            exact z_iret rfl dX12_pays_124
          · cases q
            replace h := zsm_r h
            refine z_iload dX12_pays_111 rfl ?_
            refine z_iconst dX12_pays_113 cI_1 ?_
            refine z_iadd dX12_pays_114 rfl ?_
            cases h
            exact z_iret rfl dX12_pays_115
        · rw [if_pos q10] at h
          exact z_mask [false, false, false, false, false, false, false] rfl (tX12_pays_b31 T  S  r h)
/-! X12_takes -/
noncomputable def fX12_takes_b27 (T : zT) (x2 : Int32) (s0 : Int32) (s1 : Int32) (s2 : Nat) (S : zS) : Option (Int32 × zS) :=
  zlet (zI S s2 2 (s1 + s0)) fun S7 => zgd (zbl x2) (some (x2, S7))
noncomputable def fX12_takes (T : zT) (k0 : Nat) (i1 : Nat) (S : zS) : Option (Int32 × zS) :=
  zb (fX12_blanks T k0 S) fun _ S3 => zb1 (fX12_stands T k0 i1 S3) fun r4 => if r4 = 0 then fX12_takes_b27 T r4 0 (S3.1 k0 2) k0 S3 else fX12_takes_b27 T r4 (zsL i1) (S3.1 k0 2) k0 S3
set_option maxHeartbeats 4000000 in
set_option maxRecDepth 100000 in
theorem tX12_takes_b27 (T : zT) (x2 : Int32) (s0 : Int32) (s1 : Int32) (s2 : Nat) (S : zS) (g2 : iX12 T s2) {g : zG} (r : (Int32 × zS)) (h : fX12_takes_b27 T x2 s0 s1 s2 S = some r)  : zg g 5 mX12_takes T 27 [none, none, some (.int x2)] [.int s0, .int s1, .ref s2] T S (some (.int r.1)) T r.2 := by
  unfold fX12_takes_b27 at h
  refine z_iadd dX12_takes_27 rfl ?_
  refine z_putI zfX12_190 g2.1 dX12_takes_28 ?_
  obtain ⟨S7, eS7, h⟩ := zlet_elim h
  refine z_tS eS7 ?_
  refine z_iload_n dX12_takes_31 rfl ?_
  obtain ⟨q8, h⟩ := zgd_elim h
  cases h
  exact z_zret rfl (zbl_ok q8) dX12_takes_32
set_option maxHeartbeats 4000000 in
set_option maxRecDepth 100000 in
theorem tX12_takes (T : zT) (k0 : Nat) (i1 : Nat) (S : zS) (h0 : iX12 T k0) (h1 : i1 < 27) (r : Int32 × zS) (h : fX12_takes T k0 i1 S = some r) : zGM 5 mX12_takes [.ref k0, .ref (10002 + i1)] T S (some (.int r.1)) T r.2 := by
  refine zGM_of zpnX12 rfl (Nat.le_of_ble_eq_true rfl) (fun g => ?_)
  show zg g 5 mX12_takes T 0 [some (.ref k0), some (.ref (10002 + i1)), none] [] T S (some (.int r.1)) T r.2
  unfold fX12_takes at h
  refine z_aload_n dX12_takes_0 rfl ?_
  obtain ⟨r1, S3, hc2, h⟩ := zb_elim h
  refine z_callV (As := []) zcX12 zkX12_213 ziX12_blanks zqX12_blanks h0.1 (tX12_blanks T k0 S h0 (r1, S3) hc2) rfl rfl (Nat.le_of_ble_eq_true rfl) (by decide) ⟨Nat.le_refl _, Nat.le_refl _⟩ ⟨Nat.le_refl _, Nat.le_refl _⟩ dX12_takes_1 ?_
  refine z_aload_n dX12_takes_4 rfl ?_
  refine z_aload_n dX12_takes_5 rfl ?_
  obtain ⟨r4, hc5, h⟩ := zb1_elim h
  refine z_callV (As := [.ref (10002 + i1)]) zcX12 zkX12_216 ziX12_stands zqX12_stands h0.1 (tX12_stands T k0 i1 S3 h0 h1 r4 hc5) rfl rfl (Nat.le_of_ble_eq_true rfl) (by decide) ⟨Nat.le_refl _, Nat.le_refl _⟩ ⟨Nat.le_refl _, Nat.le_refl _⟩ dX12_takes_6 ?_
  refine z_istore_n dX12_takes_9 rfl (by decide) rfl ?_
  refine z_aload_n dX12_takes_10 rfl ?_
  refine z_dup dX12_takes_11 rfl ?_
  refine z_gI (zF.x zfX12_190) h0.1 dX12_takes_12 ?_
  refine z_iload_n dX12_takes_15 rfl ?_
  refine z_if_eq (tgt := 26) dX12_takes_16 (by decide) (fun q6 => ?_) (fun q6 => ?_)
  · rw [if_pos q6] at h
    refine z_iconst dX12_takes_26 cI_0 ?_
    exact z_mask [false, false, true] rfl (tX12_takes_b27 T r4 0 (S3.1 k0 2) k0 S3 h0 r h)
  · rw [if_neg q6] at h
    refine z_aload_n dX12_takes_19 rfl ?_
    refine z_callW (As := []) rfl zkX12_204 ziJ0_length_8abf5 zqJ0_length_8abf5 h1 (tJ0_length T i1 S3 h1) rfl rfl (Nat.le_of_ble_eq_true rfl) (by decide) ⟨Nat.le_refl _, Nat.le_refl _⟩ dX12_takes_20 ?_
    refine z_goto (tgt := 27) dX12_takes_23 (by decide) ?_
    exact z_mask [false, false, true] rfl (tX12_takes_b27 T r4 (zsL i1) (S3.1 k0 2) k0 S3 h0 r h)
/-! X12_value -/
noncomputable def fX12_value_l37 (T : zT) (k0 : Nat) (x1 : Int32) (S : zS) (x2 : Int32) : Option (Int32 ⊕ Int32) :=
  if (S.1 k0 10) ≤ x2 then some (.inr x2) else zb1 (fX12_wordOf T k0 x2 S) fun r9 => zb1 (fX12_stands T k0 r9 S) fun r11 => if r11 = 0 then zlet (x2 + 1) fun u14 => some (.inl u14) else some (.inr x2)
noncomputable def fX12_value_b63 (T : zT) (k0 : Nat) (x1 : Int32) (x2 : Int32) (S : zS) : Option (Unit × zS) :=
  if x2 = (S.1 k0 10) then zb (fX12_fails T k0 0 x1 S) fun _ S28 => some ((), S28) else zb (fX12_isCounted T k0 x1 S) fun _ S19 => zb1 (fX12_wordOf T k0 x2 S19) fun r20 => zlet (zI S19 k0 2 ((S19.1 k0 2) + (zsL r20))) fun S22 => zb (fX12_entry T k0 1 x2 S22) fun _ S25 => some ((), S25)
noncomputable def fX12_value (T : zT) (k0 : Nat) (S : zS) : Option (Unit × zS) :=
  zb (fX12_blanks T k0 S) fun _ S3 => zlet (S3.1 k0 2) fun u4 => zb1 (fX12_isDigit T k0 S3) fun r5 => if r5 = 0 then zb1 (lp (fun a => fX12_value_l37 T k0 u4 S3 a) 0) fun e15 => fX12_value_b63 T k0 u4 e15 S3 else zb (fX12_digits T k0 99999 S3) fun r31 S33 => zb (fX12_isCounted T k0 u4 S33) fun _ S36 => zb (fX12_entry T k0 0 r31 S36) fun _ S39 => some ((), S39)
set_option maxHeartbeats 4000000 in
set_option maxRecDepth 100000 in
theorem tX12_value_l37b (T : zT) (k0 : Nat) (x1 : Int32) (S : zS) (x2 : Int32) (h0 : iX12 T k0) {g : zG} {v : Option Value} {S' : zS} (r : Int32 ⊕ Int32) (h : fX12_value_l37 T k0 x1 S x2 = some r) (K1 : ∀ a : Int32, r = .inl a → zg g 5 mX12_value T 37 [some (.ref k0), some (.int x1), some (.int a)] [] T S v T S') (K2_0 : ∀ e : Int32, r = .inr e → zg g 5 mX12_value T 63 [some (.ref k0), some (.int x1), some (.int e)] [] T S v T S') : zg g 5 mX12_value T 37 [some (.ref k0), some (.int x1), some (.int x2)] [] T S v T S' := by
  unfold fX12_value_l37 at h
  refine z_iload_n dX12_value_37 rfl ?_
  refine z_aload_n dX12_value_38 rfl ?_
  refine z_gI (zF.x zfX12_245) h0.1 dX12_value_39 ?_
  refine z_icmp_ge (tgt := 63) dX12_value_42 (by decide) (fun q8 => ?_) (fun q8 => ?_)
  · rw [if_pos q8] at h
    cases h
    exact z_mask [true, true, true] rfl (K2_0 _ rfl)
  · rw [if_neg q8] at h
    refine z_aload_n dX12_value_45 rfl ?_
    refine z_aload_n dX12_value_46 rfl ?_
    refine z_iload_n dX12_value_47 rfl ?_
    obtain ⟨r9, hc10, h⟩ := zb1_elim h
    refine z_callV (As := [.int x2]) zcX12 zkX12_248 ziX12_wordOf zqX12_wordOf h0.1 (tX12_wordOf T k0 x2 S h0 r9 hc10) rfl rfl (Nat.le_of_ble_eq_true rfl) (by decide) ⟨Nat.le_refl _, Nat.le_refl _⟩ ⟨Nat.le_refl _, Nat.le_refl _⟩ dX12_value_48 ?_
    obtain ⟨r11, hc12, h⟩ := zb1_elim h
    refine z_callV (As := [.ref (10002 + r9)]) zcX12 zkX12_216 ziX12_stands zqX12_stands h0.1 (tX12_stands T k0 r9 S h0 (uX12_wordOf T k0 x2 S h0 r9 hc10) r11 hc12) rfl rfl (Nat.le_of_ble_eq_true rfl) (by decide) ⟨Nat.le_refl _, Nat.le_refl _⟩ ⟨Nat.le_refl _, Nat.le_refl _⟩ dX12_value_51 ?_
    refine z_if_ne (tgt := 63) dX12_value_54 (by decide) (fun q13 => ?_) (fun q13 => ?_)
    · rw [if_neg q13] at h
      cases h
      exact z_mask [true, true, true] rfl (K2_0 _ rfl)
    · rw [if_pos q13] at h
      obtain ⟨u14, eu14, h⟩ := zlet_elim h
      refine z_iinc (r := u14) dX12_value_57 rfl (by rw [eu14, cI_1]) rfl (by decide) rfl ?_
      refine z_goto (tgt := 37) dX12_value_60 (by decide) ?_
      cases h
      exact z_mask [true, true, true] rfl (K1 _ rfl)
set_option maxHeartbeats 4000000 in
set_option maxRecDepth 100000 in
theorem tX12_value_l37 (T : zT) (k0 : Nat) (x1 : Int32) (S : zS) (h0 : iX12 T k0) {g : zG} {v : Option Value} {S' : zS} : ∀ (n : Nat) (a : Int32) (e : Int32), lpn (fun a => fX12_value_l37 T k0 x1 S a) n a = some e → (∀ e1 : Int32, e = e1 → zg g 5 mX12_value T 63 [some (.ref k0), some (.int x1), some (.int e1)] [] T S v T S') → zg g 5 mX12_value T 37 [some (.ref k0), some (.int x1), some (.int a)] [] T S v T S' := by
  intro n
  induction n with
  | zero =>
    intro a e h
    cases h
  | succ n ih =>
    intro a e h k0_
    rcases lpn_succ h with ⟨a1, ha_, hb_⟩ | ha_
    · exact tX12_value_l37b T k0 x1 S a h0 _ ha_ (fun a2 q => by cases q; exact ih a1 e hb_ k0_) (fun e1 q => by cases q)
    · exact tX12_value_l37b T k0 x1 S a h0 _ ha_ (fun a2 q => by cases q) (fun e1 q => by cases q; exact k0_ _ rfl)
set_option maxHeartbeats 4000000 in
set_option maxRecDepth 100000 in
theorem tX12_value_b63 (T : zT) (k0 : Nat) (x1 : Int32) (x2 : Int32) (S : zS) (h0 : iX12 T k0) {g : zG} (r : (Unit × zS)) (h : fX12_value_b63 T k0 x1 x2 S = some r)  : zg g 5 mX12_value T 63 [some (.ref k0), some (.int x1), some (.int x2)] [] T S none T r.2 := by
  unfold fX12_value_b63 at h
  refine z_iload_n dX12_value_63 rfl ?_
  refine z_aload_n dX12_value_64 rfl ?_
  refine z_gI (zF.x zfX12_245) h0.1 dX12_value_65 ?_
  refine z_icmp_ne (tgt := 78) dX12_value_68 (by decide) (fun q16 => ?_) (fun q16 => ?_)
  · rw [if_neg q16] at h
    refine z_aload_n dX12_value_78 rfl ?_
    refine z_iload_n dX12_value_79 rfl ?_
    obtain ⟨r17, S19, hc18, h⟩ := zb_elim h
    refine z_callV (As := [.int x1]) zcX12 zkX12_239 ziX12_isCounted zqX12_isCounted h0.1 (tX12_isCounted T k0 x1 S h0 (r17, S19) hc18) rfl rfl (Nat.le_of_ble_eq_true rfl) (by decide) ⟨Nat.le_refl _, Nat.le_refl _⟩ ⟨Nat.le_refl _, Nat.le_refl _⟩ dX12_value_80 ?_
    refine z_aload_n dX12_value_83 rfl ?_
    refine z_dup dX12_value_84 rfl ?_
    refine z_gI (zF.x zfX12_190) h0.1 dX12_value_85 ?_
    refine z_aload_n dX12_value_88 rfl ?_
    refine z_iload_n dX12_value_89 rfl ?_
    obtain ⟨r20, hc21, h⟩ := zb1_elim h
    refine z_callV (As := [.int x2]) zcX12 zkX12_248 ziX12_wordOf zqX12_wordOf h0.1 (tX12_wordOf T k0 x2 S19 h0 r20 hc21) rfl rfl (Nat.le_of_ble_eq_true rfl) (by decide) ⟨Nat.le_refl _, Nat.le_refl _⟩ ⟨Nat.le_refl _, Nat.le_refl _⟩ dX12_value_90 ?_
    refine z_callW (As := []) rfl zkX12_204 ziJ0_length_8abf5 zqJ0_length_8abf5 (uX12_wordOf T k0 x2 S19 h0 r20 hc21) (tJ0_length T r20 S19 (uX12_wordOf T k0 x2 S19 h0 r20 hc21)) rfl rfl (Nat.le_of_ble_eq_true rfl) (by decide) ⟨Nat.le_refl _, Nat.le_refl _⟩ dX12_value_93 ?_
    refine z_iadd dX12_value_96 rfl ?_
    refine z_putI zfX12_190 h0.1 dX12_value_97 ?_
    obtain ⟨S22, eS22, h⟩ := zlet_elim h
    refine z_tS eS22 ?_
    refine z_aload_n dX12_value_100 rfl ?_
    refine z_iconst dX12_value_101 cI_1 ?_
    refine z_iload_n dX12_value_102 rfl ?_
    obtain ⟨r23, S25, hc24, h⟩ := zb_elim h
    refine z_callV (As := [.int 1, .int x2]) zcX12 zkX12_242 ziX12_entry zqX12_entry h0.1 (tX12_entry T k0 1 x2 S22 h0 (r23, S25) hc24) rfl rfl (Nat.le_of_ble_eq_true rfl) (by decide) ⟨Nat.le_refl _, Nat.le_refl _⟩ ⟨Nat.le_refl _, Nat.le_refl _⟩ dX12_value_103 ?_
    cases h
    exact z_vret rfl dX12_value_106
  · rw [if_pos q16] at h
    refine z_aload_n dX12_value_71 rfl ?_
    refine z_iconst dX12_value_72 cI_0 ?_
    refine z_iload_n dX12_value_73 rfl ?_
    obtain ⟨r26, S28, hc27, h⟩ := zb_elim h
    refine z_callV (As := [.int 0, .int x1]) zcX12 zkX12_226 ziX12_fails zqX12_fails h0.1 (tX12_fails T k0 0 x1 S h0 (r26, S28) hc27) rfl rfl (Nat.le_of_ble_eq_true rfl) (by decide) ⟨Nat.le_refl _, Nat.le_refl _⟩ ⟨Nat.le_refl _, Nat.le_refl _⟩ dX12_value_74 ?_
    cases h
    exact z_vret rfl dX12_value_77
set_option maxHeartbeats 4000000 in
set_option maxRecDepth 100000 in
theorem tX12_value (T : zT) (k0 : Nat) (S : zS) (h0 : iX12 T k0) (r : Unit × zS) (h : fX12_value T k0 S = some r) : zGM 5 mX12_value [.ref k0] T S none T r.2 := by
  refine zGM_of zpnX12 rfl (Nat.le_of_ble_eq_true rfl) (fun g => ?_)
  show zg g 5 mX12_value T 0 [some (.ref k0), none, none] [] T S none T r.2
  unfold fX12_value at h
  refine z_aload_n dX12_value_0 rfl ?_
  obtain ⟨r1, S3, hc2, h⟩ := zb_elim h
  refine z_callV (As := []) zcX12 zkX12_213 ziX12_blanks zqX12_blanks h0.1 (tX12_blanks T k0 S h0 (r1, S3) hc2) rfl rfl (Nat.le_of_ble_eq_true rfl) (by decide) ⟨Nat.le_refl _, Nat.le_refl _⟩ ⟨Nat.le_refl _, Nat.le_refl _⟩ dX12_value_1 ?_
  refine z_aload_n dX12_value_4 rfl ?_
  refine z_gI (zF.x zfX12_190) h0.1 dX12_value_5 ?_
  obtain ⟨u4, eu4, h⟩ := zlet_elim h
  refine z_ti eu4 ?_
  refine z_istore_n dX12_value_8 rfl (by decide) rfl ?_
  refine z_aload_n dX12_value_9 rfl ?_
  obtain ⟨r5, hc6, h⟩ := zb1_elim h
  refine z_callV (As := []) zcX12 zkX12_230 ziX12_isDigit zqX12_isDigit h0.1 (tX12_isDigit T k0 S3 h0 r5 hc6) rfl rfl (Nat.le_of_ble_eq_true rfl) (by decide) ⟨Nat.le_refl _, Nat.le_refl _⟩ ⟨Nat.le_refl _, Nat.le_refl _⟩ dX12_value_10 ?_
  refine z_if_eq (tgt := 35) dX12_value_13 (by decide) (fun q7 => ?_) (fun q7 => ?_)
  · rw [if_pos q7] at h
    refine z_iconst dX12_value_35 cI_0 ?_
    refine z_istore_n dX12_value_36 rfl (by decide) rfl ?_
    obtain ⟨e15, hl29, h⟩ := zb1_elim h
    obtain ⟨nf30, hl29⟩ := lp_some hl29
    refine z_mask [true, true, true] rfl (tX12_value_l37 T k0 u4 S3 h0 nf30 0 e15 hl29 (fun e_ q => ?_))
    · cases q
      exact z_mask [true, true, true] rfl (tX12_value_b63 T k0 u4 e15 S3 h0 r h)
  · rw [if_neg q7] at h
    refine z_aload_n dX12_value_16 rfl ?_
    refine z_ldc znX12_234 dX12_value_17 ?_
    obtain ⟨r31, S33, hc32, h⟩ := zb_elim h
    refine z_callV (As := [.int 99999]) zcX12 zkX12_235 ziX12_digits zqX12_digits h0.1 (tX12_digits T k0 99999 S3 h0 (r31, S33) hc32) rfl rfl (Nat.le_of_ble_eq_true rfl) (by decide) ⟨Nat.le_refl _, Nat.le_refl _⟩ ⟨Nat.le_refl _, Nat.le_refl _⟩ dX12_value_19 ?_
    refine z_istore_n dX12_value_22 rfl (by decide) rfl ?_
    refine z_aload_n dX12_value_23 rfl ?_
    refine z_iload_n dX12_value_24 rfl ?_
    obtain ⟨r34, S36, hc35, h⟩ := zb_elim h
    refine z_callV (As := [.int u4]) zcX12 zkX12_239 ziX12_isCounted zqX12_isCounted h0.1 (tX12_isCounted T k0 u4 S33 h0 (r34, S36) hc35) rfl rfl (Nat.le_of_ble_eq_true rfl) (by decide) ⟨Nat.le_refl _, Nat.le_refl _⟩ ⟨Nat.le_refl _, Nat.le_refl _⟩ dX12_value_25 ?_
    refine z_aload_n dX12_value_28 rfl ?_
    refine z_iconst dX12_value_29 cI_0 ?_
    refine z_iload_n dX12_value_30 rfl ?_
    obtain ⟨r37, S39, hc38, h⟩ := zb_elim h
    refine z_callV (As := [.int 0, .int r31]) zcX12 zkX12_242 ziX12_entry zqX12_entry h0.1 (tX12_entry T k0 0 r31 S36 h0 (r37, S39) hc38) rfl rfl (Nat.le_of_ble_eq_true rfl) (by decide) ⟨Nat.le_refl _, Nat.le_refl _⟩ ⟨Nat.le_refl _, Nat.le_refl _⟩ dX12_value_31 ?_
    cases h
    exact z_vret rfl dX12_value_34
/-! X12_thingClause -/
noncomputable def fX12_thingClause_l118 (T : zT) (k0 : Nat) (x2 : Int32) (x3 : Int32) (S : zS) (x5 : Int32) : Option (Int32 ⊕ Int32) :=
  if 4 ≤ x5 then some (.inr x5) else zb1 (fX12_extraOf T x5 S) fun r27 => zb1 (fX12_stands T k0 r27 S) fun r29 => if r29 = 0 then zlet (x5 + 1) fun u32 => some (.inl u32) else some (.inr x5)
noncomputable def fX12_thingClause_b218 (T : zT) (k0 : Nat) (x2 : Int32) (x3 : Int32) (s0 : Int32) (S : zS) : Option ((Int32 × Int32 × zS) ⊕ zS) :=
  some (.inl (x3, s0, S))
noncomputable def fX12_thingClause_b217 (T : zT) (k0 : Nat) (x2 : Int32) (x3 : Int32) (S : zS) : Option ((Int32 × Int32 × zS) ⊕ zS) :=
  fX12_thingClause_b218 T k0 x2 x3 0 S
noncomputable def fX12_thingClause_b201 (T : zT) (k0 : Nat) (x2 : Int32) (x3 : Int32) (x4 : Int32) (S : zS) : Option ((Int32 × Int32 × zS) ⊕ zS) :=
  if x4 = 0 then fX12_thingClause_b217 T k0 x2 x3 S else if (S.1 k0 3) = 0 then fX12_thingClause_b218 T k0 x2 x3 1 S else fX12_thingClause_b217 T k0 x2 x3 S
noncomputable def fX12_thingClause_b182 (T : zT) (k0 : Nat) (x2 : Int32) (x3 : Int32) (x4 : Int32) (x5 : Int32) (S : zS) : Option ((Int32 × Int32 × zS) ⊕ zS) :=
  if x4 = 0 then fX12_thingClause_b201 T k0 x2 x3 x4 S else zlet (x3 ||| (1 <<< (x5 &&& 31))) fun u39 => zb (fX12_extra T k0 x2 x5 S) fun _ S42 => fX12_thingClause_b201 T k0 x2 u39 x4 S42
noncomputable def fX12_thingClause_b153 (T : zT) (k0 : Nat) (x2 : Int32) (x3 : Int32) (x5 : Int32) (s0 : Int32) (S : zS) : Option ((Int32 × Int32 × zS) ⊕ zS) :=
  if s0 = 0 then fX12_thingClause_b182 T k0 x2 x3 s0 x5 S else if ((x3 >>> (x5 &&& 31)) &&& 1) = 1 then zb (fX12_fails T k0 4 (S.1 k0 2) S) fun _ S46 => fX12_thingClause_b201 T k0 x2 x3 s0 S46 else fX12_thingClause_b182 T k0 x2 x3 s0 x5 S
noncomputable def fX12_thingClause_b142 (T : zT) (k0 : Nat) (x2 : Int32) (x3 : Int32) (x5 : Int32) (S : zS) : Option ((Int32 × Int32 × zS) ⊕ zS) :=
  if 4 ≤ x5 then fX12_thingClause_b153 T k0 x2 x3 x5 0 S else fX12_thingClause_b153 T k0 x2 x3 x5 1 S
noncomputable def fX12_thingClause_l106 (T : zT) (k0 : Nat) (x2 : Int32) (x3 : Int32) (x4 : Int32) (S : zS) : Option ((Int32 × Int32 × zS) ⊕ zS) :=
  if x4 = 0 then some (.inr S) else zb (fX12_blanks T k0 S) fun _ S25 => zb1 (lp (fun a => fX12_thingClause_l118 T k0 x2 x3 S25 a) 0) fun e33 => fX12_thingClause_b142 T k0 x2 x3 e33 S25
noncomputable def fX12_thingClause_b104 (T : zT) (k0 : Nat) (x2 : Int32) (x3 : Int32) (s0 : Int32) (S : zS) : Option (Unit × zS) :=
  zb1 (lp (fun a => fX12_thingClause_l106 T k0 x2 a.1 a.2.1 a.2.2) (x3, s0, S)) fun e49 => some ((), e49)
noncomputable def fX12_thingClause (T : zT) (k0 : Nat) (S : zS) : Option (Unit × zS) :=
  zb (fX12_letter T k0 S) fun r1 S3 => if r1 = (-1) then zb (fX12_fails T k0 0 (S3.1 k0 2) S3) fun _ S57 => some ((), S57) else zlet (8 + r1) fun u5 => zgd (zin u5 16) (if (S3.1 (zr T k0 22) (u5 : Int32).toNatClampNeg) = 1 then zb (fX12_fails T k0 5 (S3.1 k0 2) S3) fun _ S54 => some ((), S54) else zlet (zI S3 k0 2 ((S3.1 k0 2) + 1)) fun S8 => zgd (zin u5 16) (zlet (zI S8 (zr T k0 22) (u5 : Int32).toNatClampNeg 1) fun S10 => zb (fX12_amount T k0 1 9999 S10) fun r11 S13 => zgd (zin u5 16) (zlet (zI S13 (zr T k0 23) (u5 : Int32).toNatClampNeg r11) fun S15 => zb (fX12_amount T k0 0 999 S15) fun r16 S18 => zgd (zin u5 16) (zlet (zI S18 (zr T k0 24) (u5 : Int32).toNatClampNeg r16) fun S20 => if (S20.1 k0 3) = 0 then fX12_thingClause_b104 T k0 u5 0 1 S20 else fX12_thingClause_b104 T k0 u5 0 0 S20))))
set_option maxHeartbeats 4000000 in
set_option maxRecDepth 100000 in
theorem tX12_thingClause_l118b (T : zT) (k0 : Nat) (x2 : Int32) (x3 : Int32) (S : zS) (x5 : Int32) (h0 : iX12 T k0) {g : zG} {v : Option Value} {S' : zS} (r : Int32 ⊕ Int32) (h : fX12_thingClause_l118 T k0 x2 x3 S x5 = some r) (K1 : ∀ a : Int32, r = .inl a → zg g 5 mX12_thingClause T 118 [some (.ref k0), none, some (.int x2), some (.int x3), none, some (.int a)] [] T S v T S') (K2_0 : ∀ e : Int32, r = .inr e → zg g 5 mX12_thingClause T 142 [some (.ref k0), none, some (.int x2), some (.int x3), none, some (.int e)] [] T S v T S') : zg g 5 mX12_thingClause T 118 [some (.ref k0), none, some (.int x2), some (.int x3), none, some (.int x5)] [] T S v T S' := by
  unfold fX12_thingClause_l118 at h
  refine z_iload dX12_thingClause_118 rfl ?_
  refine z_iconst dX12_thingClause_120 cI_4 ?_
  refine z_icmp_ge (tgt := 142) dX12_thingClause_121 (by decide) (fun q26 => ?_) (fun q26 => ?_)
  · rw [if_pos q26] at h
    cases h
    exact z_mask [true, false, true, true, false, true] rfl (K2_0 _ rfl)
  · rw [if_neg q26] at h
    refine z_aload_n dX12_thingClause_124 rfl ?_
    refine z_iload dX12_thingClause_125 rfl ?_
    obtain ⟨r27, hc28, h⟩ := zb1_elim h
    refine z_callS (As := [.int x5]) zkX12_306 zsX12_extraOf (tX12_extraOf T x5 S  r27 hc28) rfl rfl (Nat.le_of_ble_eq_true rfl) (by decide) ⟨Nat.le_refl _, Nat.le_refl _⟩ ⟨Nat.le_refl _, Nat.le_refl _⟩ dX12_thingClause_127 ?_
    obtain ⟨r29, hc30, h⟩ := zb1_elim h
    refine z_callV (As := [.ref (10002 + r27)]) zcX12 zkX12_216 ziX12_stands zqX12_stands h0.1 (tX12_stands T k0 r27 S h0 (uX12_extraOf T x5 S  r27 hc28) r29 hc30) rfl rfl (Nat.le_of_ble_eq_true rfl) (by decide) ⟨Nat.le_refl _, Nat.le_refl _⟩ ⟨Nat.le_refl _, Nat.le_refl _⟩ dX12_thingClause_130 ?_
    refine z_if_ne (tgt := 142) dX12_thingClause_133 (by decide) (fun q31 => ?_) (fun q31 => ?_)
    · rw [if_neg q31] at h
      cases h
      exact z_mask [true, false, true, true, false, true] rfl (K2_0 _ rfl)
    · rw [if_pos q31] at h
      obtain ⟨u32, eu32, h⟩ := zlet_elim h
      refine z_iinc (r := u32) dX12_thingClause_136 rfl (by rw [eu32, cI_1]) rfl (by decide) rfl ?_
      refine z_goto (tgt := 118) dX12_thingClause_139 (by decide) ?_
      cases h
      exact z_mask [true, false, true, true, false, true] rfl (K1 _ rfl)
set_option maxHeartbeats 4000000 in
set_option maxRecDepth 100000 in
theorem tX12_thingClause_l118 (T : zT) (k0 : Nat) (x2 : Int32) (x3 : Int32) (S : zS) (h0 : iX12 T k0) {g : zG} {v : Option Value} {S' : zS} : ∀ (n : Nat) (a : Int32) (e : Int32), lpn (fun a => fX12_thingClause_l118 T k0 x2 x3 S a) n a = some e → (∀ e1 : Int32, e = e1 → zg g 5 mX12_thingClause T 142 [some (.ref k0), none, some (.int x2), some (.int x3), none, some (.int e1)] [] T S v T S') → zg g 5 mX12_thingClause T 118 [some (.ref k0), none, some (.int x2), some (.int x3), none, some (.int a)] [] T S v T S' := by
  intro n
  induction n with
  | zero =>
    intro a e h
    cases h
  | succ n ih =>
    intro a e h k0_
    rcases lpn_succ h with ⟨a1, ha_, hb_⟩ | ha_
    · exact tX12_thingClause_l118b T k0 x2 x3 S a h0 _ ha_ (fun a2 q => by cases q; exact ih a1 e hb_ k0_) (fun e1 q => by cases q)
    · exact tX12_thingClause_l118b T k0 x2 x3 S a h0 _ ha_ (fun a2 q => by cases q) (fun e1 q => by cases q; exact k0_ _ rfl)
set_option maxHeartbeats 4000000 in
set_option maxRecDepth 100000 in
theorem tX12_thingClause_b218 (T : zT) (k0 : Nat) (x2 : Int32) (x3 : Int32) (s0 : Int32) (S : zS) (h0 : iX12 T k0) {g : zG} {v : Option Value} {S' : zS} (r : ((Int32 × Int32 × zS) ⊕ zS)) (h : fX12_thingClause_b218 T k0 x2 x3 s0 S = some r) (K1 : ∀ a : (Int32 × Int32 × zS), r = .inl a → zg g 5 mX12_thingClause T 106 [some (.ref k0), none, some (.int x2), some (.int a.1), some (.int a.2.1), none] [] T a.2.2 v T S') (K2_0 : ∀ e : zS, r = .inr e → zg g 5 mX12_thingClause T 223 [none, none, none, none, none, none] [] T e v T S') : zg g 5 mX12_thingClause T 218 [some (.ref k0), none, some (.int x2), some (.int x3), none, none] [.int s0] T S v T S' := by
  unfold fX12_thingClause_b218 at h
  refine z_istore dX12_thingClause_218 rfl (by decide) rfl ?_
  refine z_goto (tgt := 106) dX12_thingClause_220 (by decide) ?_
  cases h
  exact z_mask [true, false, true, true, true, false] rfl (K1 _ rfl)
set_option maxHeartbeats 4000000 in
set_option maxRecDepth 100000 in
theorem tX12_thingClause_b217 (T : zT) (k0 : Nat) (x2 : Int32) (x3 : Int32) (S : zS) (h0 : iX12 T k0) {g : zG} {v : Option Value} {S' : zS} (r : ((Int32 × Int32 × zS) ⊕ zS)) (h : fX12_thingClause_b217 T k0 x2 x3 S = some r) (K1 : ∀ a : (Int32 × Int32 × zS), r = .inl a → zg g 5 mX12_thingClause T 106 [some (.ref k0), none, some (.int x2), some (.int a.1), some (.int a.2.1), none] [] T a.2.2 v T S') (K2_0 : ∀ e : zS, r = .inr e → zg g 5 mX12_thingClause T 223 [none, none, none, none, none, none] [] T e v T S') : zg g 5 mX12_thingClause T 217 [some (.ref k0), none, some (.int x2), some (.int x3), none, none] [] T S v T S' := by
  unfold fX12_thingClause_b217 at h
  refine z_iconst dX12_thingClause_217 cI_0 ?_
  exact z_mask [true, false, true, true, false, false] rfl (tX12_thingClause_b218 T k0 x2 x3 0 S h0 r h K1 K2_0)
set_option maxHeartbeats 4000000 in
set_option maxRecDepth 100000 in
theorem tX12_thingClause_b201 (T : zT) (k0 : Nat) (x2 : Int32) (x3 : Int32) (x4 : Int32) (S : zS) (h0 : iX12 T k0) {g : zG} {v : Option Value} {S' : zS} (r : ((Int32 × Int32 × zS) ⊕ zS)) (h : fX12_thingClause_b201 T k0 x2 x3 x4 S = some r) (K1 : ∀ a : (Int32 × Int32 × zS), r = .inl a → zg g 5 mX12_thingClause T 106 [some (.ref k0), none, some (.int x2), some (.int a.1), some (.int a.2.1), none] [] T a.2.2 v T S') (K2_0 : ∀ e : zS, r = .inr e → zg g 5 mX12_thingClause T 223 [none, none, none, none, none, none] [] T e v T S') : zg g 5 mX12_thingClause T 201 [some (.ref k0), none, some (.int x2), some (.int x3), some (.int x4), none] [] T S v T S' := by
  unfold fX12_thingClause_b201 at h
  refine z_iload dX12_thingClause_201 rfl ?_
  refine z_if_eq (tgt := 217) dX12_thingClause_203 (by decide) (fun q37 => ?_) (fun q37 => ?_)
  · rw [if_pos q37] at h
    exact z_mask [true, false, true, true, false, false] rfl (tX12_thingClause_b217 T k0 x2 x3 S h0 r h K1 K2_0)
  · rw [if_neg q37] at h
    refine z_aload_n dX12_thingClause_206 rfl ?_
    refine z_gI (zF.x zfX12_187) h0.1 dX12_thingClause_207 ?_
    refine z_if_ne (tgt := 217) dX12_thingClause_210 (by decide) (fun q38 => ?_) (fun q38 => ?_)
    · rw [if_neg q38] at h
      exact z_mask [true, false, true, true, false, false] rfl (tX12_thingClause_b217 T k0 x2 x3 S h0 r h K1 K2_0)
    · rw [if_pos q38] at h
      refine z_iconst dX12_thingClause_213 cI_1 ?_
      refine z_goto (tgt := 218) dX12_thingClause_214 (by decide) ?_
      exact z_mask [true, false, true, true, false, false] rfl (tX12_thingClause_b218 T k0 x2 x3 1 S h0 r h K1 K2_0)
set_option maxHeartbeats 4000000 in
set_option maxRecDepth 100000 in
theorem tX12_thingClause_b182 (T : zT) (k0 : Nat) (x2 : Int32) (x3 : Int32) (x4 : Int32) (x5 : Int32) (S : zS) (h0 : iX12 T k0) {g : zG} {v : Option Value} {S' : zS} (r : ((Int32 × Int32 × zS) ⊕ zS)) (h : fX12_thingClause_b182 T k0 x2 x3 x4 x5 S = some r) (K1 : ∀ a : (Int32 × Int32 × zS), r = .inl a → zg g 5 mX12_thingClause T 106 [some (.ref k0), none, some (.int x2), some (.int a.1), some (.int a.2.1), none] [] T a.2.2 v T S') (K2_0 : ∀ e : zS, r = .inr e → zg g 5 mX12_thingClause T 223 [none, none, none, none, none, none] [] T e v T S') : zg g 5 mX12_thingClause T 182 [some (.ref k0), none, some (.int x2), some (.int x3), some (.int x4), some (.int x5)] [] T S v T S' := by
  unfold fX12_thingClause_b182 at h
  refine z_iload dX12_thingClause_182 rfl ?_
  refine z_if_eq (tgt := 201) dX12_thingClause_184 (by decide) (fun q36 => ?_) (fun q36 => ?_)
  · rw [if_pos q36] at h
    exact z_mask [true, false, true, true, true, false] rfl (tX12_thingClause_b201 T k0 x2 x3 x4 S h0 r h K1 K2_0)
  · rw [if_neg q36] at h
    refine z_iload_n dX12_thingClause_187 rfl ?_
    refine z_iconst dX12_thingClause_188 cI_1 ?_
    refine z_iload dX12_thingClause_189 rfl ?_
    refine z_ishl dX12_thingClause_191 rfl ?_
    refine z_ior dX12_thingClause_192 rfl ?_
    obtain ⟨u39, eu39, h⟩ := zlet_elim h
    refine z_ti eu39 ?_
    refine z_istore_n dX12_thingClause_193 rfl (by decide) rfl ?_
    refine z_aload_n dX12_thingClause_194 rfl ?_
    refine z_iload_n dX12_thingClause_195 rfl ?_
    refine z_iload dX12_thingClause_196 rfl ?_
    obtain ⟨r40, S42, hc41, h⟩ := zb_elim h
    refine z_callV (As := [.int x2, .int x5]) zcX12 zkX12_309 ziX12_extra zqX12_extra h0.1 (tX12_extra T k0 x2 x5 S h0 (r40, S42) hc41) rfl rfl (Nat.le_of_ble_eq_true rfl) (by decide) ⟨Nat.le_refl _, Nat.le_refl _⟩ ⟨Nat.le_refl _, Nat.le_refl _⟩ dX12_thingClause_198 ?_
    exact z_mask [true, false, true, true, true, false] rfl (tX12_thingClause_b201 T k0 x2 u39 x4 S42 h0 r h K1 K2_0)
set_option maxHeartbeats 4000000 in
set_option maxRecDepth 100000 in
theorem tX12_thingClause_b153 (T : zT) (k0 : Nat) (x2 : Int32) (x3 : Int32) (x5 : Int32) (s0 : Int32) (S : zS) (h0 : iX12 T k0) {g : zG} {v : Option Value} {S' : zS} (r : ((Int32 × Int32 × zS) ⊕ zS)) (h : fX12_thingClause_b153 T k0 x2 x3 x5 s0 S = some r) (K1 : ∀ a : (Int32 × Int32 × zS), r = .inl a → zg g 5 mX12_thingClause T 106 [some (.ref k0), none, some (.int x2), some (.int a.1), some (.int a.2.1), none] [] T a.2.2 v T S') (K2_0 : ∀ e : zS, r = .inr e → zg g 5 mX12_thingClause T 223 [none, none, none, none, none, none] [] T e v T S') : zg g 5 mX12_thingClause T 153 [some (.ref k0), none, some (.int x2), some (.int x3), none, some (.int x5)] [.int s0] T S v T S' := by
  unfold fX12_thingClause_b153 at h
  refine z_istore dX12_thingClause_153 rfl (by decide) rfl ?_
  refine z_iload dX12_thingClause_155 rfl ?_
  refine z_if_eq (tgt := 182) dX12_thingClause_157 (by decide) (fun q35 => ?_) (fun q35 => ?_)
  · rw [if_pos q35] at h
    exact z_mask [true, false, true, true, true, true] rfl (tX12_thingClause_b182 T k0 x2 x3 s0 x5 S h0 r h K1 K2_0)
  · rw [if_neg q35] at h
    refine z_iload_n dX12_thingClause_160 rfl ?_
    refine z_iload dX12_thingClause_161 rfl ?_
    refine z_ishr dX12_thingClause_163 rfl ?_
    refine z_iconst dX12_thingClause_164 cI_1 ?_
    refine z_iand dX12_thingClause_165 rfl ?_
    refine z_iconst dX12_thingClause_166 cI_1 ?_
    refine z_icmp_ne (tgt := 182) dX12_thingClause_167 (by decide) (fun q43 => ?_) (fun q43 => ?_)
    · rw [if_neg q43] at h
      exact z_mask [true, false, true, true, true, true] rfl (tX12_thingClause_b182 T k0 x2 x3 s0 x5 S h0 r h K1 K2_0)
    · rw [if_pos q43] at h
      refine z_aload_n dX12_thingClause_170 rfl ?_
      refine z_iconst dX12_thingClause_171 cI_4 ?_
      refine z_aload_n dX12_thingClause_172 rfl ?_
      refine z_gI (zF.x zfX12_190) h0.1 dX12_thingClause_173 ?_
      obtain ⟨r44, S46, hc45, h⟩ := zb_elim h
      refine z_callV (As := [.int 4, .int (S.1 k0 2)]) zcX12 zkX12_226 ziX12_fails zqX12_fails h0.1 (tX12_fails T k0 4 (S.1 k0 2) S h0 (r44, S46) hc45) rfl rfl (Nat.le_of_ble_eq_true rfl) (by decide) ⟨Nat.le_refl _, Nat.le_refl _⟩ ⟨Nat.le_refl _, Nat.le_refl _⟩ dX12_thingClause_176 ?_
      refine z_goto (tgt := 201) dX12_thingClause_179 (by decide) ?_
      exact z_mask [true, false, true, true, true, false] rfl (tX12_thingClause_b201 T k0 x2 x3 s0 S46 h0 r h K1 K2_0)
set_option maxHeartbeats 4000000 in
set_option maxRecDepth 100000 in
theorem tX12_thingClause_b142 (T : zT) (k0 : Nat) (x2 : Int32) (x3 : Int32) (x5 : Int32) (S : zS) (h0 : iX12 T k0) {g : zG} {v : Option Value} {S' : zS} (r : ((Int32 × Int32 × zS) ⊕ zS)) (h : fX12_thingClause_b142 T k0 x2 x3 x5 S = some r) (K1 : ∀ a : (Int32 × Int32 × zS), r = .inl a → zg g 5 mX12_thingClause T 106 [some (.ref k0), none, some (.int x2), some (.int a.1), some (.int a.2.1), none] [] T a.2.2 v T S') (K2_0 : ∀ e : zS, r = .inr e → zg g 5 mX12_thingClause T 223 [none, none, none, none, none, none] [] T e v T S') : zg g 5 mX12_thingClause T 142 [some (.ref k0), none, some (.int x2), some (.int x3), none, some (.int x5)] [] T S v T S' := by
  unfold fX12_thingClause_b142 at h
  refine z_iload dX12_thingClause_142 rfl ?_
  refine z_iconst dX12_thingClause_144 cI_4 ?_
  refine z_icmp_ge (tgt := 152) dX12_thingClause_145 (by decide) (fun q34 => ?_) (fun q34 => ?_)
  · rw [if_pos q34] at h
    refine z_iconst dX12_thingClause_152 cI_0 ?_
    exact z_mask [true, false, true, true, false, true] rfl (tX12_thingClause_b153 T k0 x2 x3 x5 0 S h0 r h K1 K2_0)
  · rw [if_neg q34] at h
    refine z_iconst dX12_thingClause_148 cI_1 ?_
    refine z_goto (tgt := 153) dX12_thingClause_149 (by decide) ?_
    exact z_mask [true, false, true, true, false, true] rfl (tX12_thingClause_b153 T k0 x2 x3 x5 1 S h0 r h K1 K2_0)
set_option maxHeartbeats 4000000 in
set_option maxRecDepth 100000 in
theorem tX12_thingClause_l106b (T : zT) (k0 : Nat) (x2 : Int32) (x3 : Int32) (x4 : Int32) (S : zS) (h0 : iX12 T k0) {g : zG} {v : Option Value} {S' : zS} (r : (Int32 × Int32 × zS) ⊕ zS) (h : fX12_thingClause_l106 T k0 x2 x3 x4 S = some r) (K1 : ∀ a : (Int32 × Int32 × zS), r = .inl a → zg g 5 mX12_thingClause T 106 [some (.ref k0), none, some (.int x2), some (.int a.1), some (.int a.2.1), none] [] T a.2.2 v T S') (K2_0 : ∀ e : zS, r = .inr e → zg g 5 mX12_thingClause T 223 [none, none, none, none, none, none] [] T e v T S') : zg g 5 mX12_thingClause T 106 [some (.ref k0), none, some (.int x2), some (.int x3), some (.int x4), none] [] T S v T S' := by
  unfold fX12_thingClause_l106 at h
  refine z_iload dX12_thingClause_106 rfl ?_
  refine z_if_eq (tgt := 223) dX12_thingClause_108 (by decide) (fun q22 => ?_) (fun q22 => ?_)
  · rw [if_pos q22] at h
    cases h
    exact z_mask [false, false, false, false, false, false] rfl (K2_0 _ rfl)
  · rw [if_neg q22] at h
    refine z_aload_n dX12_thingClause_111 rfl ?_
    obtain ⟨r23, S25, hc24, h⟩ := zb_elim h
    refine z_callV (As := []) zcX12 zkX12_213 ziX12_blanks zqX12_blanks h0.1 (tX12_blanks T k0 S h0 (r23, S25) hc24) rfl rfl (Nat.le_of_ble_eq_true rfl) (by decide) ⟨Nat.le_refl _, Nat.le_refl _⟩ ⟨Nat.le_refl _, Nat.le_refl _⟩ dX12_thingClause_112 ?_
    refine z_iconst dX12_thingClause_115 cI_0 ?_
    refine z_istore dX12_thingClause_116 rfl (by decide) rfl ?_
    obtain ⟨e33, hl47, h⟩ := zb1_elim h
    obtain ⟨nf48, hl47⟩ := lp_some hl47
    refine z_mask [true, false, true, true, false, true] rfl (tX12_thingClause_l118 T k0 x2 x3 S25 h0 nf48 0 e33 hl47 (fun e_ q => ?_))
    · cases q
      exact z_mask [true, false, true, true, false, true] rfl (tX12_thingClause_b142 T k0 x2 x3 e33 S25 h0 r h K1 K2_0)
set_option maxHeartbeats 4000000 in
set_option maxRecDepth 100000 in
theorem tX12_thingClause_l106 (T : zT) (k0 : Nat) (x2 : Int32) (h0 : iX12 T k0) {g : zG} {v : Option Value} {S' : zS} : ∀ (n : Nat) (a : (Int32 × Int32 × zS)) (e : zS), lpn (fun a => fX12_thingClause_l106 T k0 x2 a.1 a.2.1 a.2.2) n a = some e → (∀ e1 : zS, e = e1 → zg g 5 mX12_thingClause T 223 [none, none, none, none, none, none] [] T e1 v T S') → zg g 5 mX12_thingClause T 106 [some (.ref k0), none, some (.int x2), some (.int a.1), some (.int a.2.1), none] [] T a.2.2 v T S' := by
  intro n
  induction n with
  | zero =>
    intro a e h
    cases h
  | succ n ih =>
    intro a e h k0_
    rcases lpn_succ h with ⟨a1, ha_, hb_⟩ | ha_
    · exact tX12_thingClause_l106b T k0 x2 a.1 a.2.1 a.2.2 h0 _ ha_ (fun a2 q => by cases q; exact ih a1 e hb_ k0_) (fun e1 q => by cases q)
    · exact tX12_thingClause_l106b T k0 x2 a.1 a.2.1 a.2.2 h0 _ ha_ (fun a2 q => by cases q) (fun e1 q => by cases q; exact k0_ _ rfl)
set_option maxHeartbeats 4000000 in
set_option maxRecDepth 100000 in
theorem tX12_thingClause_b104 (T : zT) (k0 : Nat) (x2 : Int32) (x3 : Int32) (s0 : Int32) (S : zS) (h0 : iX12 T k0) {g : zG} (r : (Unit × zS)) (h : fX12_thingClause_b104 T k0 x2 x3 s0 S = some r)  : zg g 5 mX12_thingClause T 104 [some (.ref k0), none, some (.int x2), some (.int x3), none, none] [.int s0] T S none T r.2 := by
  unfold fX12_thingClause_b104 at h
  refine z_istore dX12_thingClause_104 rfl (by decide) rfl ?_
  obtain ⟨e49, hl50, h⟩ := zb1_elim h
  obtain ⟨nf51, hl50⟩ := lp_some hl50
  refine z_mask [true, false, true, true, true, false] rfl (tX12_thingClause_l106 T k0 x2 h0 nf51 (x3, s0, S) e49 hl50 (fun e_ q => ?_))
  · cases q
    cases h
    exact z_vret rfl dX12_thingClause_223
set_option maxHeartbeats 4000000 in
set_option maxRecDepth 100000 in
theorem tX12_thingClause (T : zT) (k0 : Nat) (S : zS) (h0 : iX12 T k0) (r : Unit × zS) (h : fX12_thingClause T k0 S = some r) : zGM 5 mX12_thingClause [.ref k0] T S none T r.2 := by
  refine zGM_of zpnX12 rfl (Nat.le_of_ble_eq_true rfl) (fun g => ?_)
  show zg g 5 mX12_thingClause T 0 [some (.ref k0), none, none, none, none, none] [] T S none T r.2
  unfold fX12_thingClause at h
  refine z_aload_n dX12_thingClause_0 rfl ?_
  obtain ⟨r1, S3, hc2, h⟩ := zb_elim h
  refine z_callV (As := []) zcX12 zkX12_299 ziX12_letter zqX12_letter h0.1 (tX12_letter T k0 S h0 (r1, S3) hc2) rfl rfl (Nat.le_of_ble_eq_true rfl) (by decide) ⟨Nat.le_refl _, Nat.le_refl _⟩ ⟨Nat.le_refl _, Nat.le_refl _⟩ dX12_thingClause_1 ?_
  refine z_istore_n dX12_thingClause_4 rfl (by decide) rfl ?_
  refine z_iload_n dX12_thingClause_5 rfl ?_
  refine z_iconst dX12_thingClause_6 cI_m1 ?_
  refine z_icmp_ne (tgt := 20) dX12_thingClause_7 (by decide) (fun q4 => ?_) (fun q4 => ?_)
  · rw [if_neg q4] at h
    refine z_bipush dX12_thingClause_20 cB_8 ?_
    refine z_iload_n dX12_thingClause_22 rfl ?_
    refine z_iadd dX12_thingClause_23 rfl ?_
    obtain ⟨u5, eu5, h⟩ := zlet_elim h
    refine z_ti eu5 ?_
    refine z_istore_n dX12_thingClause_24 rfl (by decide) rfl ?_
    refine z_aload_n dX12_thingClause_25 rfl ?_
    refine z_gA (zF.x zfX12_44) h0.1 dX12_thingClause_26 ?_
    refine z_iload_n dX12_thingClause_29 rfl ?_
    obtain ⟨q6, h⟩ := zgd_elim h
    refine z_iald h0.2.2.2.2.2.2.2.2.2.2.2.2.1 (zin_ok q6) dX12_thingClause_30 ?_
    refine z_iconst dX12_thingClause_31 cI_1 ?_
    refine z_icmp_ne (tgt := 45) dX12_thingClause_32 (by decide) (fun q7 => ?_) (fun q7 => ?_)
    · rw [if_neg q7] at h
      refine z_aload_n dX12_thingClause_45 rfl ?_
      refine z_dup dX12_thingClause_46 rfl ?_
      refine z_gI (zF.x zfX12_190) h0.1 dX12_thingClause_47 ?_
      refine z_iconst dX12_thingClause_50 cI_1 ?_
      refine z_iadd dX12_thingClause_51 rfl ?_
      refine z_putI zfX12_190 h0.1 dX12_thingClause_52 ?_
      obtain ⟨S8, eS8, h⟩ := zlet_elim h
      refine z_tS eS8 ?_
      refine z_aload_n dX12_thingClause_55 rfl ?_
      refine z_gA (zF.x zfX12_44) h0.1 dX12_thingClause_56 ?_
      refine z_iload_n dX12_thingClause_59 rfl ?_
      refine z_iconst dX12_thingClause_60 cI_1 ?_
      obtain ⟨q9, h⟩ := zgd_elim h
      refine z_iast h0.2.2.2.2.2.2.2.2.2.2.2.2.1 (zin_ok q9) dX12_thingClause_61 ?_
      obtain ⟨S10, eS10, h⟩ := zlet_elim h
      refine z_tS eS10 ?_
      refine z_aload_n dX12_thingClause_62 rfl ?_
      refine z_gA (zF.x zfX12_47) h0.1 dX12_thingClause_63 ?_
      refine z_iload_n dX12_thingClause_66 rfl ?_
      refine z_aload_n dX12_thingClause_67 rfl ?_
      refine z_iconst dX12_thingClause_68 cI_1 ?_
      refine z_sipush dX12_thingClause_69 cS_9999 ?_
      obtain ⟨r11, S13, hc12, h⟩ := zb_elim h
      refine z_callV (As := [.int 1, .int 9999]) zcX12 zkX12_302 ziX12_amount zqX12_amount h0.1 (tX12_amount T k0 1 9999 S10 h0 (r11, S13) hc12) rfl rfl (Nat.le_of_ble_eq_true rfl) (by decide) ⟨Nat.le_refl _, Nat.le_refl _⟩ ⟨Nat.le_refl _, Nat.le_refl _⟩ dX12_thingClause_72 ?_
      obtain ⟨q14, h⟩ := zgd_elim h
      refine z_iast h0.2.2.2.2.2.2.2.2.2.2.2.2.2.1 (zin_ok q14) dX12_thingClause_75 ?_
      obtain ⟨S15, eS15, h⟩ := zlet_elim h
      refine z_tS eS15 ?_
      refine z_aload_n dX12_thingClause_76 rfl ?_
      refine z_gA (zF.x zfX12_50) h0.1 dX12_thingClause_77 ?_
      refine z_iload_n dX12_thingClause_80 rfl ?_
      refine z_aload_n dX12_thingClause_81 rfl ?_
      refine z_iconst dX12_thingClause_82 cI_0 ?_
      refine z_sipush dX12_thingClause_83 cS_999 ?_
      obtain ⟨r16, S18, hc17, h⟩ := zb_elim h
      refine z_callV (As := [.int 0, .int 999]) zcX12 zkX12_302 ziX12_amount zqX12_amount h0.1 (tX12_amount T k0 0 999 S15 h0 (r16, S18) hc17) rfl rfl (Nat.le_of_ble_eq_true rfl) (by decide) ⟨Nat.le_refl _, Nat.le_refl _⟩ ⟨Nat.le_refl _, Nat.le_refl _⟩ dX12_thingClause_86 ?_
      obtain ⟨q19, h⟩ := zgd_elim h
      refine z_iast h0.2.2.2.2.2.2.2.2.2.2.2.2.2.2.1 (zin_ok q19) dX12_thingClause_89 ?_
      obtain ⟨S20, eS20, h⟩ := zlet_elim h
      refine z_tS eS20 ?_
      refine z_iconst dX12_thingClause_90 cI_0 ?_
      refine z_istore_n dX12_thingClause_91 rfl (by decide) rfl ?_
      refine z_aload_n dX12_thingClause_92 rfl ?_
      refine z_gI (zF.x zfX12_187) h0.1 dX12_thingClause_93 ?_
      refine z_if_ne (tgt := 103) dX12_thingClause_96 (by decide) (fun q21 => ?_) (fun q21 => ?_)
      · rw [if_neg q21] at h
        refine z_iconst dX12_thingClause_103 cI_0 ?_
        exact z_mask [true, false, true, true, false, false] rfl (tX12_thingClause_b104 T k0 u5 0 0 S20 h0 r h)
      · rw [if_pos q21] at h
        refine z_iconst dX12_thingClause_99 cI_1 ?_
        refine z_goto (tgt := 104) dX12_thingClause_100 (by decide) ?_
        exact z_mask [true, false, true, true, false, false] rfl (tX12_thingClause_b104 T k0 u5 0 1 S20 h0 r h)
    · rw [if_pos q7] at h
      refine z_aload_n dX12_thingClause_35 rfl ?_
      refine z_iconst dX12_thingClause_36 cI_5 ?_
      refine z_aload_n dX12_thingClause_37 rfl ?_
      refine z_gI (zF.x zfX12_190) h0.1 dX12_thingClause_38 ?_
      obtain ⟨r52, S54, hc53, h⟩ := zb_elim h
      refine z_callV (As := [.int 5, .int (S3.1 k0 2)]) zcX12 zkX12_226 ziX12_fails zqX12_fails h0.1 (tX12_fails T k0 5 (S3.1 k0 2) S3 h0 (r52, S54) hc53) rfl rfl (Nat.le_of_ble_eq_true rfl) (by decide) ⟨Nat.le_refl _, Nat.le_refl _⟩ ⟨Nat.le_refl _, Nat.le_refl _⟩ dX12_thingClause_41 ?_
      cases h
      exact z_vret rfl dX12_thingClause_44
  · rw [if_pos q4] at h
    refine z_aload_n dX12_thingClause_10 rfl ?_
    refine z_iconst dX12_thingClause_11 cI_0 ?_
    refine z_aload_n dX12_thingClause_12 rfl ?_
    refine z_gI (zF.x zfX12_190) h0.1 dX12_thingClause_13 ?_
    obtain ⟨r55, S57, hc56, h⟩ := zb_elim h
    refine z_callV (As := [.int 0, .int (S3.1 k0 2)]) zcX12 zkX12_226 ziX12_fails zqX12_fails h0.1 (tX12_fails T k0 0 (S3.1 k0 2) S3 h0 (r55, S57) hc56) rfl rfl (Nat.le_of_ble_eq_true rfl) (by decide) ⟨Nat.le_refl _, Nat.le_refl _⟩ ⟨Nat.le_refl _, Nat.le_refl _⟩ dX12_thingClause_16 ?_
    cases h
    exact z_vret rfl dX12_thingClause_19
/-! X12_goesBy -/
noncomputable def fX12_goesBy_b238 (T : zT) (k0 : Nat) (x1 : Int32) (x2 : Int32) (x3 : Int32) (x4 : Int32) (S : zS) : Option ((Int32 × Int32 × zS) ⊕ (Int32 × zS)) :=
  zlet (x4 + 1) fun u10 => some (.inl (x3, u10, S))
noncomputable def fX12_goesBy_b169 (T : zT) (k0 : Nat) (x1 : Int32) (x2 : Int32) (x3 : Int32) (x4 : Int32) (x5 : Int32) (s0 : Int32) (s1 : Nat) (S : zS) : Option ((Int32 × zS) ⊕ (Int32 × zS)) :=
  zlet (zI S s1 49 s0) fun S25 => zlet (x3 + 1) fun u26 => some (.inl (u26, S25))
noncomputable def fX12_goesBy_l120 (T : zT) (k0 : Nat) (x1 : Int32) (x2 : Int32) (x4 : Int32) (x5 : Int32) (x3 : Int32) (S : zS) : Option ((Int32 × zS) ⊕ (Int32 × zS)) :=
  if (S.1 k0 50) = (-1) then if (S.1 k0 49) = (-1) then if (S.1 k0 36) ≤ x3 then some (.inr (x3, S)) else zgd (zin x3 60) (if (S.1 (zr T k0 37) (x3 : Int32).toNatClampNeg) = x4 then zb (fX12_does T k0 x3 S) fun r21 S23 => if r21 = 0 then fX12_goesBy_b169 T k0 x1 x2 x3 x4 x5 x3 k0 S23 else fX12_goesBy_b169 T k0 x1 x2 x3 x4 x5 (-1) k0 S23 else some (.inr (x3, S))) else some (.inr (x3, S)) else some (.inr (x3, S))
noncomputable def fX12_goesBy_b178 (T : zT) (k0 : Nat) (x1 : Int32) (x2 : Int32) (x3 : Int32) (x4 : Int32) (x5 : Int32) (S : zS) : Option ((Int32 × Int32 × zS) ⊕ (Int32 × zS)) :=
  if (S.1 k0 50) = (-1) then if (S.1 k0 49) = (-1) then zb (fX12_ends T k0 x4 x5 S) fun r30 S32 => if r30 = 0 then fX12_goesBy_b238 T k0 x1 x2 x3 x4 S32 else zgd (zin x4 60) (zlet (zI S32 (zr T k0 44) (x4 : Int32).toNatClampNeg (S32.1 k0 48)) fun S35 => zb1 (fX12_placed T k0 1 S35) fun r36 => zgd (zin x4 60) (zlet (zI S35 (zr T k0 45) (x4 : Int32).toNatClampNeg r36) fun S39 => zlet (zI S39 k0 51 ((S39.1 k0 51) + 1)) fun S40 => fX12_goesBy_b238 T k0 x1 x2 x3 x4 S40)) else fX12_goesBy_b238 T k0 x1 x2 x3 x4 S else fX12_goesBy_b238 T k0 x1 x2 x3 x4 S
noncomputable def fX12_goesBy_e120 (T : zT) (k0 : Nat) (x1 : Int32) (x2 : Int32) (x3 : Int32) (x4 : Int32) (x5 : Int32) (S : zS) : Option ((Int32 × Int32 × zS) ⊕ (Int32 × zS)) :=
  zb1 (lp (fun a => fX12_goesBy_l120 T k0 x1 x2 x4 x5 a.1 a.2) (x3, S)) fun e27 => fX12_goesBy_b178 T k0 x1 x2 e27.1 x4 x5 e27.2
noncomputable def fX12_goesBy_b116 (T : zT) (k0 : Nat) (x1 : Int32) (x2 : Int32) (x3 : Int32) (x4 : Int32) (x5 : Int32) (s0 : Int32) (s1 : Int32) (s2 : Nat) (S : zS) : Option ((Int32 × Int32 × zS) ⊕ (Int32 × zS)) :=
  zlet (zI S s2 48 (s1 - s0)) fun S49 => fX12_goesBy_e120 T k0 x1 x2 x3 x4 x5 S49
noncomputable def fX12_goesBy_b90 (T : zT) (k0 : Nat) (x1 : Int32) (x2 : Int32) (x3 : Int32) (x4 : Int32) (x5 : Int32) (s0 : Int32) (s1 : Nat) (S : zS) : Option ((Int32 × Int32 × zS) ⊕ (Int32 × zS)) :=
  zlet (zI S s1 50 s0) fun S47 => if (S47.1 k0 50) = (-1) then zgd (zin 0 2) (fX12_goesBy_b116 T k0 x1 x2 x3 x4 x5 (S47.1 (zr T k0 30) (0 : Int32).toNatClampNeg) (S47.1 k0 48) k0 S47) else fX12_goesBy_b116 T k0 x1 x2 x3 x4 x5 0 (S47.1 k0 48) k0 S47
noncomputable def fX12_goesBy_l9 (T : zT) (k0 : Nat) (x1 : Int32) (x2 : Int32) (x3 : Int32) (x4 : Int32) (S : zS) : Option ((Int32 × Int32 × zS) ⊕ (Int32 × zS)) :=
  zgd (zin 0 2) (if (S.1 (zr T k0 33) (0 : Int32).toNatClampNeg) ≤ x4 then some (.inr (x3, S)) else zb (fX12_works T k0 x1 x2 x4 S) fun r6 S8 => if (S8.1 k0 49) = (-1) then if (S8.1 k0 50) = (-1) then zb (fX12_loses T k0 x4 S8) fun _ S14 => if (S14.1 k0 47) = 0 then fX12_goesBy_e120 T k0 x1 x2 x3 x4 r6 S14 else zgd (zin 0 2) (if x4 = (S14.1 (zr T k0 31) (0 : Int32).toNatClampNeg) then zgd (zin 0 2) (if (S14.1 (zr T k0 30) (0 : Int32).toNatClampNeg) ≤ (S14.1 k0 48) then fX12_goesBy_b90 T k0 x1 x2 x3 x4 r6 (-1) k0 S14 else fX12_goesBy_b90 T k0 x1 x2 x3 x4 r6 x4 k0 S14) else fX12_goesBy_e120 T k0 x1 x2 x3 x4 r6 S14) else fX12_goesBy_b238 T k0 x1 x2 x3 x4 S8 else fX12_goesBy_b238 T k0 x1 x2 x3 x4 S8)
noncomputable def fX12_goesBy_b273 (T : zT)  (S : zS) : Option (Unit × zS) :=
  some ((), S)
noncomputable def fX12_goesBy (T : zT) (k0 : Nat) (x1 : Int32) (x2 : Int32) (S : zS) : Option (Unit × zS) :=
  zb (fX12_begins T k0 S) fun _ S3 => zb1 (lp (fun a => fX12_goesBy_l9 T k0 x1 x2 a.1 a.2.1 a.2.2) (0, 0, S3)) fun e51 => if (e51.2.1 k0 49) = (-1) then if (e51.2.1 k0 50) = (-1) then if (e51.2.1 k0 36) ≤ e51.1 then fX12_goesBy_b273 T  e51.2 else zlet (zI e51.2 k0 49 e51.1) fun S55 => fX12_goesBy_b273 T  S55 else fX12_goesBy_b273 T  e51.2 else fX12_goesBy_b273 T  e51.2
set_option maxHeartbeats 4000000 in
set_option maxRecDepth 100000 in
theorem tX12_goesBy_b238 (T : zT) (k0 : Nat) (x1 : Int32) (x2 : Int32) (x3 : Int32) (x4 : Int32) (S : zS) (h0 : iX12 T k0) {g : zG} {v : Option Value} {S' : zS} (r : ((Int32 × Int32 × zS) ⊕ (Int32 × zS))) (h : fX12_goesBy_b238 T k0 x1 x2 x3 x4 S = some r) (K1 : ∀ a : (Int32 × Int32 × zS), r = .inl a → zg g 5 mX12_goesBy T 9 [some (.ref k0), some (.int x1), some (.int x2), some (.int a.1), some (.int a.2.1), none] [] T a.2.2 v T S') (K2_0 : ∀ e : (Int32 × zS), r = .inr e → zg g 5 mX12_goesBy T 244 [some (.ref k0), none, none, some (.int e.1), none, none] [] T e.2 v T S') : zg g 5 mX12_goesBy T 238 [some (.ref k0), some (.int x1), some (.int x2), some (.int x3), some (.int x4), none] [] T S v T S' := by
  unfold fX12_goesBy_b238 at h
  obtain ⟨u10, eu10, h⟩ := zlet_elim h
  refine z_iinc (r := u10) dX12_goesBy_238 rfl (by rw [eu10, cI_1]) rfl (by decide) rfl ?_
  refine z_goto (tgt := 9) dX12_goesBy_241 (by decide) ?_
  cases h
  exact z_mask [true, true, true, true, true, false] rfl (K1 _ rfl)
set_option maxHeartbeats 4000000 in
set_option maxRecDepth 100000 in
theorem tX12_goesBy_b169 (T : zT) (k0 : Nat) (x1 : Int32) (x2 : Int32) (x3 : Int32) (x4 : Int32) (x5 : Int32) (s0 : Int32) (s1 : Nat) (S : zS) (h0 : iX12 T k0) (g1 : iX12 T s1) {g : zG} {v : Option Value} {S' : zS} (r : ((Int32 × zS) ⊕ (Int32 × zS))) (h : fX12_goesBy_b169 T k0 x1 x2 x3 x4 x5 s0 s1 S = some r) (K1 : ∀ a : (Int32 × zS), r = .inl a → zg g 5 mX12_goesBy T 120 [some (.ref k0), some (.int x1), some (.int x2), some (.int a.1), some (.int x4), some (.int x5)] [] T a.2 v T S') (K2_0 : ∀ e : (Int32 × zS), r = .inr e → zg g 5 mX12_goesBy T 178 [some (.ref k0), some (.int x1), some (.int x2), some (.int e.1), some (.int x4), some (.int x5)] [] T e.2 v T S') : zg g 5 mX12_goesBy T 169 [some (.ref k0), some (.int x1), some (.int x2), some (.int x3), some (.int x4), some (.int x5)] [.int s0, .ref s1] T S v T S' := by
  unfold fX12_goesBy_b169 at h
  refine z_putI zfX12_408 g1.1 dX12_goesBy_169 ?_
  obtain ⟨S25, eS25, h⟩ := zlet_elim h
  refine z_tS eS25 ?_
  obtain ⟨u26, eu26, h⟩ := zlet_elim h
  refine z_iinc (r := u26) dX12_goesBy_172 rfl (by rw [eu26, cI_1]) rfl (by decide) rfl ?_
  refine z_goto (tgt := 120) dX12_goesBy_175 (by decide) ?_
  cases h
  exact z_mask [true, true, true, true, true, true] rfl (K1 _ rfl)
set_option maxHeartbeats 4000000 in
set_option maxRecDepth 100000 in
theorem tX12_goesBy_l120b (T : zT) (k0 : Nat) (x1 : Int32) (x2 : Int32) (x4 : Int32) (x5 : Int32) (x3 : Int32) (S : zS) (h0 : iX12 T k0) {g : zG} {v : Option Value} {S' : zS} (r : (Int32 × zS) ⊕ (Int32 × zS)) (h : fX12_goesBy_l120 T k0 x1 x2 x4 x5 x3 S = some r) (K1 : ∀ a : (Int32 × zS), r = .inl a → zg g 5 mX12_goesBy T 120 [some (.ref k0), some (.int x1), some (.int x2), some (.int a.1), some (.int x4), some (.int x5)] [] T a.2 v T S') (K2_0 : ∀ e : (Int32 × zS), r = .inr e → zg g 5 mX12_goesBy T 178 [some (.ref k0), some (.int x1), some (.int x2), some (.int e.1), some (.int x4), some (.int x5)] [] T e.2 v T S') : zg g 5 mX12_goesBy T 120 [some (.ref k0), some (.int x1), some (.int x2), some (.int x3), some (.int x4), some (.int x5)] [] T S v T S' := by
  unfold fX12_goesBy_l120 at h
  refine z_aload_n dX12_goesBy_120 rfl ?_
  refine z_gI (zF.x zfX12_411) h0.1 dX12_goesBy_121 ?_
  refine z_iconst dX12_goesBy_124 cI_m1 ?_
  refine z_icmp_ne (tgt := 178) dX12_goesBy_125 (by decide) (fun q16 => ?_) (fun q16 => ?_)
  · rw [if_neg q16] at h
    cases h
    exact z_mask [true, true, true, true, true, true] rfl (K2_0 _ rfl)
  · rw [if_pos q16] at h
    refine z_aload_n dX12_goesBy_128 rfl ?_
    refine z_gI (zF.x zfX12_408) h0.1 dX12_goesBy_129 ?_
    refine z_iconst dX12_goesBy_132 cI_m1 ?_
    refine z_icmp_ne (tgt := 178) dX12_goesBy_133 (by decide) (fun q17 => ?_) (fun q17 => ?_)
    · rw [if_neg q17] at h
      cases h
      exact z_mask [true, true, true, true, true, true] rfl (K2_0 _ rfl)
    · rw [if_pos q17] at h
      refine z_iload_n dX12_goesBy_136 rfl ?_
      refine z_aload_n dX12_goesBy_137 rfl ?_
      refine z_gI (zF.x zfX12_351) h0.1 dX12_goesBy_138 ?_
      refine z_icmp_ge (tgt := 178) dX12_goesBy_141 (by decide) (fun q18 => ?_) (fun q18 => ?_)
      · rw [if_pos q18] at h
        cases h
        exact z_mask [true, true, true, true, true, true] rfl (K2_0 _ rfl)
      · rw [if_neg q18] at h
        refine z_aload_n dX12_goesBy_144 rfl ?_
        refine z_gA (zF.x zfX12_87) h0.1 dX12_goesBy_145 ?_
        refine z_iload_n dX12_goesBy_148 rfl ?_
        obtain ⟨q19, h⟩ := zgd_elim h
        refine z_iald h0.2.2.2.2.2.2.2.2.2.2.2.2.2.2.2.2.2.2.2.2.2.2.2.2.2.2.1 (zin_ok q19) dX12_goesBy_149 ?_
        refine z_iload dX12_goesBy_150 rfl ?_
        refine z_icmp_ne (tgt := 178) dX12_goesBy_152 (by decide) (fun q20 => ?_) (fun q20 => ?_)
        · rw [if_neg q20] at h
          cases h
          exact z_mask [true, true, true, true, true, true] rfl (K2_0 _ rfl)
        · rw [if_pos q20] at h
          refine z_aload_n dX12_goesBy_155 rfl ?_
          refine z_aload_n dX12_goesBy_156 rfl ?_
          refine z_iload_n dX12_goesBy_157 rfl ?_
          obtain ⟨r21, S23, hc22, h⟩ := zb_elim h
          refine z_callV (As := [.int x3]) zcX12 zkX12_447 ziX12_does zqX12_does h0.1 (tX12_does T k0 x3 S h0 (r21, S23) hc22) rfl rfl (Nat.le_of_ble_eq_true rfl) (by decide) ⟨Nat.le_refl _, Nat.le_refl _⟩ ⟨Nat.le_refl _, Nat.le_refl _⟩ dX12_goesBy_158 ?_
          refine z_if_eq (tgt := 168) dX12_goesBy_161 (by decide) (fun q24 => ?_) (fun q24 => ?_)
          · rw [if_pos q24] at h
            refine z_iload_n dX12_goesBy_168 rfl ?_
            exact z_mask [true, true, true, true, true, true] rfl (tX12_goesBy_b169 T k0 x1 x2 x3 x4 x5 x3 k0 S23 h0 h0 r h K1 K2_0)
          · rw [if_neg q24] at h
            refine z_iconst dX12_goesBy_164 cI_m1 ?_
            refine z_goto (tgt := 169) dX12_goesBy_165 (by decide) ?_
            exact z_mask [true, true, true, true, true, true] rfl (tX12_goesBy_b169 T k0 x1 x2 x3 x4 x5 (-1) k0 S23 h0 h0 r h K1 K2_0)
set_option maxHeartbeats 4000000 in
set_option maxRecDepth 100000 in
theorem tX12_goesBy_l120 (T : zT) (k0 : Nat) (x1 : Int32) (x2 : Int32) (x4 : Int32) (x5 : Int32) (h0 : iX12 T k0) {g : zG} {v : Option Value} {S' : zS} : ∀ (n : Nat) (a : (Int32 × zS)) (e : (Int32 × zS)), lpn (fun a => fX12_goesBy_l120 T k0 x1 x2 x4 x5 a.1 a.2) n a = some e → (∀ e1 : (Int32 × zS), e = e1 → zg g 5 mX12_goesBy T 178 [some (.ref k0), some (.int x1), some (.int x2), some (.int e1.1), some (.int x4), some (.int x5)] [] T e1.2 v T S') → zg g 5 mX12_goesBy T 120 [some (.ref k0), some (.int x1), some (.int x2), some (.int a.1), some (.int x4), some (.int x5)] [] T a.2 v T S' := by
  intro n
  induction n with
  | zero =>
    intro a e h
    cases h
  | succ n ih =>
    intro a e h k0_
    rcases lpn_succ h with ⟨a1, ha_, hb_⟩ | ha_
    · exact tX12_goesBy_l120b T k0 x1 x2 x4 x5 a.1 a.2 h0 _ ha_ (fun a2 q => by cases q; exact ih a1 e hb_ k0_) (fun e1 q => by cases q)
    · exact tX12_goesBy_l120b T k0 x1 x2 x4 x5 a.1 a.2 h0 _ ha_ (fun a2 q => by cases q) (fun e1 q => by cases q; exact k0_ _ rfl)
set_option maxHeartbeats 4000000 in
set_option maxRecDepth 100000 in
theorem tX12_goesBy_b178 (T : zT) (k0 : Nat) (x1 : Int32) (x2 : Int32) (x3 : Int32) (x4 : Int32) (x5 : Int32) (S : zS) (h0 : iX12 T k0) {g : zG} {v : Option Value} {S' : zS} (r : ((Int32 × Int32 × zS) ⊕ (Int32 × zS))) (h : fX12_goesBy_b178 T k0 x1 x2 x3 x4 x5 S = some r) (K1 : ∀ a : (Int32 × Int32 × zS), r = .inl a → zg g 5 mX12_goesBy T 9 [some (.ref k0), some (.int x1), some (.int x2), some (.int a.1), some (.int a.2.1), none] [] T a.2.2 v T S') (K2_0 : ∀ e : (Int32 × zS), r = .inr e → zg g 5 mX12_goesBy T 244 [some (.ref k0), none, none, some (.int e.1), none, none] [] T e.2 v T S') : zg g 5 mX12_goesBy T 178 [some (.ref k0), some (.int x1), some (.int x2), some (.int x3), some (.int x4), some (.int x5)] [] T S v T S' := by
  unfold fX12_goesBy_b178 at h
  refine z_aload_n dX12_goesBy_178 rfl ?_
  refine z_gI (zF.x zfX12_411) h0.1 dX12_goesBy_179 ?_
  refine z_iconst dX12_goesBy_182 cI_m1 ?_
  refine z_icmp_ne (tgt := 238) dX12_goesBy_183 (by decide) (fun q28 => ?_) (fun q28 => ?_)
  · rw [if_neg q28] at h
    exact z_mask [true, true, true, true, true, false] rfl (tX12_goesBy_b238 T k0 x1 x2 x3 x4 S h0 r h K1 K2_0)
  · rw [if_pos q28] at h
    refine z_aload_n dX12_goesBy_186 rfl ?_
    refine z_gI (zF.x zfX12_408) h0.1 dX12_goesBy_187 ?_
    refine z_iconst dX12_goesBy_190 cI_m1 ?_
    refine z_icmp_ne (tgt := 238) dX12_goesBy_191 (by decide) (fun q29 => ?_) (fun q29 => ?_)
    · rw [if_neg q29] at h
      exact z_mask [true, true, true, true, true, false] rfl (tX12_goesBy_b238 T k0 x1 x2 x3 x4 S h0 r h K1 K2_0)
    · rw [if_pos q29] at h
      refine z_aload_n dX12_goesBy_194 rfl ?_
      refine z_iload dX12_goesBy_195 rfl ?_
      refine z_iload dX12_goesBy_197 rfl ?_
      obtain ⟨r30, S32, hc31, h⟩ := zb_elim h
      refine z_callV (As := [.int x4, .int x5]) zcX12 zkX12_450 ziX12_ends zqX12_ends h0.1 (tX12_ends T k0 x4 x5 S h0 (r30, S32) hc31) rfl rfl (Nat.le_of_ble_eq_true rfl) (by decide) ⟨Nat.le_refl _, Nat.le_refl _⟩ ⟨Nat.le_refl _, Nat.le_refl _⟩ dX12_goesBy_199 ?_
      refine z_if_eq (tgt := 238) dX12_goesBy_202 (by decide) (fun q33 => ?_) (fun q33 => ?_)
      · rw [if_pos q33] at h
        exact z_mask [true, true, true, true, true, false] rfl (tX12_goesBy_b238 T k0 x1 x2 x3 x4 S32 h0 r h K1 K2_0)
      · rw [if_neg q33] at h
        refine z_aload_n dX12_goesBy_205 rfl ?_
        refine z_gA (zF.x zfX12_108) h0.1 dX12_goesBy_206 ?_
        refine z_iload dX12_goesBy_209 rfl ?_
        refine z_aload_n dX12_goesBy_211 rfl ?_
        refine z_gI (zF.x zfX12_401) h0.1 dX12_goesBy_212 ?_
        obtain ⟨q34, h⟩ := zgd_elim h
        refine z_iast h0.2.2.2.2.2.2.2.2.2.2.2.2.2.2.2.2.2.2.2.2.2.2.2.2.2.2.2.2.2.2.2.2.2.1 (zin_ok q34) dX12_goesBy_215 ?_
        obtain ⟨S35, eS35, h⟩ := zlet_elim h
        refine z_tS eS35 ?_
        refine z_aload_n dX12_goesBy_216 rfl ?_
        refine z_gA (zF.x zfX12_111) h0.1 dX12_goesBy_217 ?_
        refine z_iload dX12_goesBy_220 rfl ?_
        refine z_aload_n dX12_goesBy_222 rfl ?_
        refine z_iconst dX12_goesBy_223 cI_1 ?_
        obtain ⟨r36, hc37, h⟩ := zb1_elim h
        refine z_callV (As := [.int 1]) zcX12 zkX12_420 ziX12_placed zqX12_placed h0.1 (tX12_placed T k0 1 S35 h0 r36 hc37) rfl rfl (Nat.le_of_ble_eq_true rfl) (by decide) ⟨Nat.le_refl _, Nat.le_refl _⟩ ⟨Nat.le_refl _, Nat.le_refl _⟩ dX12_goesBy_224 ?_
        obtain ⟨q38, h⟩ := zgd_elim h
        refine z_iast h0.2.2.2.2.2.2.2.2.2.2.2.2.2.2.2.2.2.2.2.2.2.2.2.2.2.2.2.2.2.2.2.2.2.2.1 (zin_ok q38) dX12_goesBy_227 ?_
        obtain ⟨S39, eS39, h⟩ := zlet_elim h
        refine z_tS eS39 ?_
        refine z_aload_n dX12_goesBy_228 rfl ?_
        refine z_dup dX12_goesBy_229 rfl ?_
        refine z_gI (zF.x zfX12_414) h0.1 dX12_goesBy_230 ?_
        refine z_iconst dX12_goesBy_233 cI_1 ?_
        refine z_iadd dX12_goesBy_234 rfl ?_
        refine z_putI zfX12_414 h0.1 dX12_goesBy_235 ?_
        obtain ⟨S40, eS40, h⟩ := zlet_elim h
        refine z_tS eS40 ?_
        exact z_mask [true, true, true, true, true, false] rfl (tX12_goesBy_b238 T k0 x1 x2 x3 x4 S40 h0 r h K1 K2_0)
set_option maxHeartbeats 4000000 in
set_option maxRecDepth 100000 in
theorem tX12_goesBy_e120 (T : zT) (k0 : Nat) (x1 : Int32) (x2 : Int32) (x3 : Int32) (x4 : Int32) (x5 : Int32) (S : zS) (h0 : iX12 T k0) {g : zG} {v : Option Value} {S' : zS} (r : ((Int32 × Int32 × zS) ⊕ (Int32 × zS))) (h : fX12_goesBy_e120 T k0 x1 x2 x3 x4 x5 S = some r) (K1 : ∀ a : (Int32 × Int32 × zS), r = .inl a → zg g 5 mX12_goesBy T 9 [some (.ref k0), some (.int x1), some (.int x2), some (.int a.1), some (.int a.2.1), none] [] T a.2.2 v T S') (K2_0 : ∀ e : (Int32 × zS), r = .inr e → zg g 5 mX12_goesBy T 244 [some (.ref k0), none, none, some (.int e.1), none, none] [] T e.2 v T S') : zg g 5 mX12_goesBy T 120 [some (.ref k0), some (.int x1), some (.int x2), some (.int x3), some (.int x4), some (.int x5)] [] T S v T S' := by
  unfold fX12_goesBy_e120 at h
  obtain ⟨e27, hl41, h⟩ := zb1_elim h
  obtain ⟨nf42, hl41⟩ := lp_some hl41
  refine z_mask [true, true, true, true, true, true] rfl (tX12_goesBy_l120 T k0 x1 x2 x4 x5 h0 nf42 (x3, S) e27 hl41 (fun e_ q => ?_))
  · cases q
    exact z_mask [true, true, true, true, true, true] rfl (tX12_goesBy_b178 T k0 x1 x2 e27.1 x4 x5 e27.2 h0 r h K1 K2_0)
set_option maxHeartbeats 4000000 in
set_option maxRecDepth 100000 in
theorem tX12_goesBy_b116 (T : zT) (k0 : Nat) (x1 : Int32) (x2 : Int32) (x3 : Int32) (x4 : Int32) (x5 : Int32) (s0 : Int32) (s1 : Int32) (s2 : Nat) (S : zS) (h0 : iX12 T k0) (g2 : iX12 T s2) {g : zG} {v : Option Value} {S' : zS} (r : ((Int32 × Int32 × zS) ⊕ (Int32 × zS))) (h : fX12_goesBy_b116 T k0 x1 x2 x3 x4 x5 s0 s1 s2 S = some r) (K1 : ∀ a : (Int32 × Int32 × zS), r = .inl a → zg g 5 mX12_goesBy T 9 [some (.ref k0), some (.int x1), some (.int x2), some (.int a.1), some (.int a.2.1), none] [] T a.2.2 v T S') (K2_0 : ∀ e : (Int32 × zS), r = .inr e → zg g 5 mX12_goesBy T 244 [some (.ref k0), none, none, some (.int e.1), none, none] [] T e.2 v T S') : zg g 5 mX12_goesBy T 116 [some (.ref k0), some (.int x1), some (.int x2), some (.int x3), some (.int x4), some (.int x5)] [.int s0, .int s1, .ref s2] T S v T S' := by
  unfold fX12_goesBy_b116 at h
  refine z_isub dX12_goesBy_116 rfl ?_
  refine z_putI zfX12_401 g2.1 dX12_goesBy_117 ?_
  obtain ⟨S49, eS49, h⟩ := zlet_elim h
  refine z_tS eS49 ?_
  exact z_mask [true, true, true, true, true, true] rfl (tX12_goesBy_e120 T k0 x1 x2 x3 x4 x5 S49 h0 r h K1 K2_0)
set_option maxHeartbeats 4000000 in
set_option maxRecDepth 100000 in
theorem tX12_goesBy_b90 (T : zT) (k0 : Nat) (x1 : Int32) (x2 : Int32) (x3 : Int32) (x4 : Int32) (x5 : Int32) (s0 : Int32) (s1 : Nat) (S : zS) (h0 : iX12 T k0) (g1 : iX12 T s1) {g : zG} {v : Option Value} {S' : zS} (r : ((Int32 × Int32 × zS) ⊕ (Int32 × zS))) (h : fX12_goesBy_b90 T k0 x1 x2 x3 x4 x5 s0 s1 S = some r) (K1 : ∀ a : (Int32 × Int32 × zS), r = .inl a → zg g 5 mX12_goesBy T 9 [some (.ref k0), some (.int x1), some (.int x2), some (.int a.1), some (.int a.2.1), none] [] T a.2.2 v T S') (K2_0 : ∀ e : (Int32 × zS), r = .inr e → zg g 5 mX12_goesBy T 244 [some (.ref k0), none, none, some (.int e.1), none, none] [] T e.2 v T S') : zg g 5 mX12_goesBy T 90 [some (.ref k0), some (.int x1), some (.int x2), some (.int x3), some (.int x4), some (.int x5)] [.int s0, .ref s1] T S v T S' := by
  unfold fX12_goesBy_b90 at h
  refine z_putI zfX12_411 g1.1 dX12_goesBy_90 ?_
  obtain ⟨S47, eS47, h⟩ := zlet_elim h
  refine z_tS eS47 ?_
  refine z_aload_n dX12_goesBy_93 rfl ?_
  refine z_dup dX12_goesBy_94 rfl ?_
  refine z_gI (zF.x zfX12_401) h0.1 dX12_goesBy_95 ?_
  refine z_aload_n dX12_goesBy_98 rfl ?_
  refine z_gI (zF.x zfX12_411) h0.1 dX12_goesBy_99 ?_
  refine z_iconst dX12_goesBy_102 cI_m1 ?_
  refine z_icmp_ne (tgt := 115) dX12_goesBy_103 (by decide) (fun q48 => ?_) (fun q48 => ?_)
  · rw [if_neg q48] at h
    refine z_iconst dX12_goesBy_115 cI_0 ?_
    exact z_mask [true, true, true, true, true, true] rfl (tX12_goesBy_b116 T k0 x1 x2 x3 x4 x5 0 (S47.1 k0 48) k0 S47 h0 h0 r h K1 K2_0)
  · rw [if_pos q48] at h
    refine z_aload_n dX12_goesBy_106 rfl ?_
    refine z_gA (zF.x zfX12_68) h0.1 dX12_goesBy_107 ?_
    refine z_iconst dX12_goesBy_110 cI_0 ?_
    obtain ⟨q50, h⟩ := zgd_elim h
    refine z_iald h0.2.2.2.2.2.2.2.2.2.2.2.2.2.2.2.2.2.2.2.2.1 (zin_ok q50) dX12_goesBy_111 ?_
    refine z_goto (tgt := 116) dX12_goesBy_112 (by decide) ?_
    exact z_mask [true, true, true, true, true, true] rfl (tX12_goesBy_b116 T k0 x1 x2 x3 x4 x5 (S47.1 (zr T k0 30) (0 : Int32).toNatClampNeg) (S47.1 k0 48) k0 S47 h0 h0 r h K1 K2_0)
set_option maxHeartbeats 4000000 in
set_option maxRecDepth 100000 in
theorem tX12_goesBy_l9b (T : zT) (k0 : Nat) (x1 : Int32) (x2 : Int32) (x3 : Int32) (x4 : Int32) (S : zS) (h0 : iX12 T k0) {g : zG} {v : Option Value} {S' : zS} (r : (Int32 × Int32 × zS) ⊕ (Int32 × zS)) (h : fX12_goesBy_l9 T k0 x1 x2 x3 x4 S = some r) (K1 : ∀ a : (Int32 × Int32 × zS), r = .inl a → zg g 5 mX12_goesBy T 9 [some (.ref k0), some (.int x1), some (.int x2), some (.int a.1), some (.int a.2.1), none] [] T a.2.2 v T S') (K2_0 : ∀ e : (Int32 × zS), r = .inr e → zg g 5 mX12_goesBy T 244 [some (.ref k0), none, none, some (.int e.1), none, none] [] T e.2 v T S') : zg g 5 mX12_goesBy T 9 [some (.ref k0), some (.int x1), some (.int x2), some (.int x3), some (.int x4), none] [] T S v T S' := by
  unfold fX12_goesBy_l9 at h
  refine z_iload dX12_goesBy_9 rfl ?_
  refine z_aload_n dX12_goesBy_11 rfl ?_
  refine z_gA (zF.x zfX12_77) h0.1 dX12_goesBy_12 ?_
  refine z_iconst dX12_goesBy_15 cI_0 ?_
  obtain ⟨q4, h⟩ := zgd_elim h
  refine z_iald h0.2.2.2.2.2.2.2.2.2.2.2.2.2.2.2.2.2.2.2.2.2.2.2.1 (zin_ok q4) dX12_goesBy_16 ?_
  refine z_icmp_ge (tgt := 244) dX12_goesBy_17 (by decide) (fun q5 => ?_) (fun q5 => ?_)
  · rw [if_pos q5] at h
    cases h
    exact z_mask [true, false, false, true, false, false] rfl (K2_0 _ rfl)
  · rw [if_neg q5] at h
    refine z_aload_n dX12_goesBy_20 rfl ?_
    refine z_iload_n dX12_goesBy_21 rfl ?_
    refine z_iload_n dX12_goesBy_22 rfl ?_
    refine z_iload dX12_goesBy_23 rfl ?_
    obtain ⟨r6, S8, hc7, h⟩ := zb_elim h
    refine z_callV (As := [.int x1, .int x2, .int x4]) zcX12 zkX12_440 ziX12_works zqX12_works h0.1 (tX12_works T k0 x1 x2 x4 S h0 (r6, S8) hc7) rfl rfl (Nat.le_of_ble_eq_true rfl) (by decide) ⟨Nat.le_refl _, Nat.le_refl _⟩ ⟨Nat.le_refl _, Nat.le_refl _⟩ dX12_goesBy_25 ?_
    refine z_istore dX12_goesBy_28 rfl (by decide) rfl ?_
    refine z_aload_n dX12_goesBy_30 rfl ?_
    refine z_gI (zF.x zfX12_408) h0.1 dX12_goesBy_31 ?_
    refine z_iconst dX12_goesBy_34 cI_m1 ?_
    refine z_icmp_ne (tgt := 238) dX12_goesBy_35 (by decide) (fun q9 => ?_) (fun q9 => ?_)
    · rw [if_neg q9] at h
      exact z_mask [true, true, true, true, true, false] rfl (tX12_goesBy_b238 T k0 x1 x2 x3 x4 S8 h0 r h K1 K2_0)
    · rw [if_pos q9] at h
      refine z_aload_n dX12_goesBy_38 rfl ?_
      refine z_gI (zF.x zfX12_411) h0.1 dX12_goesBy_39 ?_
      refine z_iconst dX12_goesBy_42 cI_m1 ?_
      refine z_icmp_ne (tgt := 238) dX12_goesBy_43 (by decide) (fun q11 => ?_) (fun q11 => ?_)
      · rw [if_neg q11] at h
        exact z_mask [true, true, true, true, true, false] rfl (tX12_goesBy_b238 T k0 x1 x2 x3 x4 S8 h0 r h K1 K2_0)
      · rw [if_pos q11] at h
        refine z_aload_n dX12_goesBy_46 rfl ?_
        refine z_iload dX12_goesBy_47 rfl ?_
        obtain ⟨r12, S14, hc13, h⟩ := zb_elim h
        refine z_callV (As := [.int x4]) zcX12 zkX12_444 ziX12_loses zqX12_loses h0.1 (tX12_loses T k0 x4 S8 h0 (r12, S14) hc13) rfl rfl (Nat.le_of_ble_eq_true rfl) (by decide) ⟨Nat.le_refl _, Nat.le_refl _⟩ ⟨Nat.le_refl _, Nat.le_refl _⟩ dX12_goesBy_49 ?_
        refine z_aload_n dX12_goesBy_52 rfl ?_
        refine z_gZ (zF.x zfX12_404) h0.1 dX12_goesBy_53 ?_
        refine z_if_eq (tgt := 120) dX12_goesBy_56 (by decide) (fun q15 => ?_) (fun q15 => ?_)
        · rw [if_pos q15] at h
          exact z_mask [true, true, true, true, true, true] rfl (tX12_goesBy_e120 T k0 x1 x2 x3 x4 r6 S14 h0 r h K1 K2_0)
        · rw [if_neg q15] at h
          refine z_iload dX12_goesBy_59 rfl ?_
          refine z_aload_n dX12_goesBy_61 rfl ?_
          refine z_gA (zF.x zfX12_71) h0.1 dX12_goesBy_62 ?_
          refine z_iconst dX12_goesBy_65 cI_0 ?_
          obtain ⟨q43, h⟩ := zgd_elim h
          refine z_iald h0.2.2.2.2.2.2.2.2.2.2.2.2.2.2.2.2.2.2.2.2.2.1 (zin_ok q43) dX12_goesBy_66 ?_
          refine z_icmp_ne (tgt := 120) dX12_goesBy_67 (by decide) (fun q44 => ?_) (fun q44 => ?_)
          · rw [if_neg q44] at h
            exact z_mask [true, true, true, true, true, true] rfl (tX12_goesBy_e120 T k0 x1 x2 x3 x4 r6 S14 h0 r h K1 K2_0)
          · rw [if_pos q44] at h
            refine z_aload_n dX12_goesBy_70 rfl ?_
            refine z_aload_n dX12_goesBy_71 rfl ?_
            refine z_gI (zF.x zfX12_401) h0.1 dX12_goesBy_72 ?_
            refine z_aload_n dX12_goesBy_75 rfl ?_
            refine z_gA (zF.x zfX12_68) h0.1 dX12_goesBy_76 ?_
            refine z_iconst dX12_goesBy_79 cI_0 ?_
            obtain ⟨q45, h⟩ := zgd_elim h
            refine z_iald h0.2.2.2.2.2.2.2.2.2.2.2.2.2.2.2.2.2.2.2.2.1 (zin_ok q45) dX12_goesBy_80 ?_
            refine z_icmp_ge (tgt := 89) dX12_goesBy_81 (by decide) (fun q46 => ?_) (fun q46 => ?_)
            · rw [if_pos q46] at h
              refine z_iconst dX12_goesBy_89 cI_m1 ?_
              exact z_mask [true, true, true, true, true, true] rfl (tX12_goesBy_b90 T k0 x1 x2 x3 x4 r6 (-1) k0 S14 h0 h0 r h K1 K2_0)
            · rw [if_neg q46] at h
              refine z_iload dX12_goesBy_84 rfl ?_
              refine z_goto (tgt := 90) dX12_goesBy_86 (by decide) ?_
              exact z_mask [true, true, true, true, true, true] rfl (tX12_goesBy_b90 T k0 x1 x2 x3 x4 r6 x4 k0 S14 h0 h0 r h K1 K2_0)
set_option maxHeartbeats 4000000 in
set_option maxRecDepth 100000 in
theorem tX12_goesBy_l9 (T : zT) (k0 : Nat) (x1 : Int32) (x2 : Int32) (h0 : iX12 T k0) {g : zG} {v : Option Value} {S' : zS} : ∀ (n : Nat) (a : (Int32 × Int32 × zS)) (e : (Int32 × zS)), lpn (fun a => fX12_goesBy_l9 T k0 x1 x2 a.1 a.2.1 a.2.2) n a = some e → (∀ e1 : (Int32 × zS), e = e1 → zg g 5 mX12_goesBy T 244 [some (.ref k0), none, none, some (.int e1.1), none, none] [] T e1.2 v T S') → zg g 5 mX12_goesBy T 9 [some (.ref k0), some (.int x1), some (.int x2), some (.int a.1), some (.int a.2.1), none] [] T a.2.2 v T S' := by
  intro n
  induction n with
  | zero =>
    intro a e h
    cases h
  | succ n ih =>
    intro a e h k0_
    rcases lpn_succ h with ⟨a1, ha_, hb_⟩ | ha_
    · exact tX12_goesBy_l9b T k0 x1 x2 a.1 a.2.1 a.2.2 h0 _ ha_ (fun a2 q => by cases q; exact ih a1 e hb_ k0_) (fun e1 q => by cases q)
    · exact tX12_goesBy_l9b T k0 x1 x2 a.1 a.2.1 a.2.2 h0 _ ha_ (fun a2 q => by cases q) (fun e1 q => by cases q; exact k0_ _ rfl)
set_option maxHeartbeats 4000000 in
set_option maxRecDepth 100000 in
theorem tX12_goesBy_b273 (T : zT)  (S : zS)  {g : zG} (r : (Unit × zS)) (h : fX12_goesBy_b273 T  S = some r)  : zg g 5 mX12_goesBy T 273 [none, none, none, none, none, none] [] T S none T r.2 := by
  unfold fX12_goesBy_b273 at h
  cases h
  exact z_vret rfl dX12_goesBy_273
set_option maxHeartbeats 4000000 in
set_option maxRecDepth 100000 in
theorem tX12_goesBy (T : zT) (k0 : Nat) (x1 : Int32) (x2 : Int32) (S : zS) (h0 : iX12 T k0) (r : Unit × zS) (h : fX12_goesBy T k0 x1 x2 S = some r) : zGM 5 mX12_goesBy [.ref k0, .int x1, .int x2] T S none T r.2 := by
  refine zGM_of zpnX12 rfl (Nat.le_of_ble_eq_true rfl) (fun g => ?_)
  show zg g 5 mX12_goesBy T 0 [some (.ref k0), some (.int x1), some (.int x2), none, none, none] [] T S none T r.2
  unfold fX12_goesBy at h
  refine z_aload_n dX12_goesBy_0 rfl ?_
  obtain ⟨r1, S3, hc2, h⟩ := zb_elim h
  refine z_callV (As := []) zcX12 zkX12_437 ziX12_begins zqX12_begins h0.1 (tX12_begins T k0 S h0 (r1, S3) hc2) rfl rfl (Nat.le_of_ble_eq_true rfl) (by decide) ⟨Nat.le_refl _, Nat.le_refl _⟩ ⟨Nat.le_refl _, Nat.le_refl _⟩ dX12_goesBy_1 ?_
  refine z_iconst dX12_goesBy_4 cI_0 ?_
  refine z_istore_n dX12_goesBy_5 rfl (by decide) rfl ?_
  refine z_iconst dX12_goesBy_6 cI_0 ?_
  refine z_istore dX12_goesBy_7 rfl (by decide) rfl ?_
  obtain ⟨e51, hl56, h⟩ := zb1_elim h
  obtain ⟨nf57, hl56⟩ := lp_some hl56
  refine z_mask [true, true, true, true, true, false] rfl (tX12_goesBy_l9 T k0 x1 x2 h0 nf57 (0, 0, S3) e51 hl56 (fun e_ q => ?_))
  · cases q
    refine z_aload_n dX12_goesBy_244 rfl ?_
    refine z_gI (zF.x zfX12_408) h0.1 dX12_goesBy_245 ?_
    refine z_iconst dX12_goesBy_248 cI_m1 ?_
    refine z_icmp_ne (tgt := 273) dX12_goesBy_249 (by decide) (fun q52 => ?_) (fun q52 => ?_)
    · rw [if_neg q52] at h
      exact z_mask [false, false, false, false, false, false] rfl (tX12_goesBy_b273 T  e51.2  r h)
    · rw [if_pos q52] at h
      refine z_aload_n dX12_goesBy_252 rfl ?_
      refine z_gI (zF.x zfX12_411) h0.1 dX12_goesBy_253 ?_
      refine z_iconst dX12_goesBy_256 cI_m1 ?_
      refine z_icmp_ne (tgt := 273) dX12_goesBy_257 (by decide) (fun q53 => ?_) (fun q53 => ?_)
      · rw [if_neg q53] at h
        exact z_mask [false, false, false, false, false, false] rfl (tX12_goesBy_b273 T  e51.2  r h)
      · rw [if_pos q53] at h
        refine z_iload_n dX12_goesBy_260 rfl ?_
        refine z_aload_n dX12_goesBy_261 rfl ?_
        refine z_gI (zF.x zfX12_351) h0.1 dX12_goesBy_262 ?_
        refine z_icmp_ge (tgt := 273) dX12_goesBy_265 (by decide) (fun q54 => ?_) (fun q54 => ?_)
        · rw [if_pos q54] at h
          exact z_mask [false, false, false, false, false, false] rfl (tX12_goesBy_b273 T  e51.2  r h)
        · rw [if_neg q54] at h
          refine z_aload_n dX12_goesBy_268 rfl ?_
          refine z_iload_n dX12_goesBy_269 rfl ?_
          refine z_putI zfX12_408 h0.1 dX12_goesBy_270 ?_
          obtain ⟨S55, eS55, h⟩ := zlet_elim h
          refine z_tS eS55 ?_
          exact z_mask [false, false, false, false, false, false] rfl (tX12_goesBy_b273 T  S55  r h)
/-! X12_plans -/
noncomputable def fX12_plans_l2 (T : zT) (k0 : Nat) (x1 : Int32) (S : zS) : Option ((Int32 × zS) ⊕ zS) :=
  if (Int32.ofNat 15360) ≤ x1 then some (.inr S) else zgd (zin x1 15360) (zlet (zI S (zr T k0 53) (x1 : Int32).toNatClampNeg (-1)) fun S3 => zlet (x1 + 1) fun u4 => some (.inl (u4, S3)))
noncomputable def fX12_plans_b205 (T : zT) (k0 : Nat) (x1 : Int32) (x2 : Int32) (S : zS) : Option ((Int32 × zS) ⊕ zS) :=
  zlet (x2 + 1) fun u12 => some (.inl (u12, S))
noncomputable def fX12_plans_b191 (T : zT) (k0 : Nat) (x1 : Int32) (x2 : Int32) (x3 : Int32) (x4 : Int32) (x5 : Int32) (s0 : Int32) (S : zS) : Option ((Int32 × Int32 × zS) ⊕ zS) :=
  zlet ((x5 - 1) &&& x4) fun u26 => some (.inl (u26, s0, S))
noncomputable def fX12_plans_b180 (T : zT) (k0 : Nat) (x1 : Int32) (x2 : Int32) (x3 : Int32) (x4 : Int32) (x5 : Int32) (s0 : Int32) (s1 : Int32) (s2 : Nat) (m2 : Nat) (S : zS) : Option ((Int32 × Int32 × zS) ⊕ zS) :=
  zgd (zin s1 m2) (zlet (zI S s2 (s1 : Int32).toNatClampNeg s0) fun S24 => if x5 = 0 then fX12_plans_b191 T k0 x1 x2 x3 x4 x5 0 S24 else fX12_plans_b191 T k0 x1 x2 x3 x4 x5 1 S24)
noncomputable def fX12_plans_l110 (T : zT) (k0 : Nat) (x1 : Int32) (x2 : Int32) (x3 : Int32) (x4 : Int32) (x5 : Int32) (x6 : Int32) (S : zS) : Option ((Int32 × Int32 × zS) ⊕ zS) :=
  if x6 = 0 then some (.inr S) else zlet (x2 ||| x5) fun u16 => zb (fX12_leads T k0 x3 x2 u16 x1 S) fun r17 S19 => zgd (zin ((256 * x1) + u16) 15360) (if r17 ≤ (S19.1 (zr T k0 53) (((256 * x1) + u16) : Int32).toNatClampNeg) then zgd (zin ((256 * x1) + u16) 15360) (fX12_plans_b180 T k0 x1 x2 x3 x4 x5 (S19.1 (zr T k0 53) (((256 * x1) + u16) : Int32).toNatClampNeg) ((256 * x1) + u16) (zr T k0 53) 15360 S19) else fX12_plans_b180 T k0 x1 x2 x3 x4 x5 r17 ((256 * x1) + u16) (zr T k0 53) 15360 S19)
noncomputable def fX12_plans_b89 (T : zT) (k0 : Nat) (x1 : Int32) (x2 : Int32) (s0 : Int32) (S : zS) : Option ((Int32 × zS) ⊕ zS) :=
  if s0 = (-1) then fX12_plans_b205 T k0 x1 x2 S else zb1 (fX12_fetchable T k0 x2 x1 S) fun r13 => zb1 (lp (fun a => fX12_plans_l110 T k0 x1 x2 s0 r13 a.1 a.2.1 a.2.2) (r13, 1, S)) fun e27 => fX12_plans_b205 T k0 x1 x2 e27
noncomputable def fX12_plans_b71 (T : zT) (k0 : Nat) (x1 : Int32) (x2 : Int32) (S : zS) : Option ((Int32 × zS) ⊕ zS) :=
  fX12_plans_b89 T k0 x1 x2 (-1) S
noncomputable def fX12_plans_l38 (T : zT) (k0 : Nat) (x1 : Int32) (x2 : Int32) (S : zS) : Option ((Int32 × zS) ⊕ zS) :=
  if 256 ≤ x2 then some (.inr S) else if x1 = 0 then if x2 = (S.1 k0 55) then if (S.1 k0 59) < 0 then fX12_plans_b71 T k0 x1 x2 S else fX12_plans_b89 T k0 x1 x2 (S.1 k0 59) S else fX12_plans_b71 T k0 x1 x2 S else zgd (zin ((256 * (x1 - 1)) + x2) 15360) (fX12_plans_b89 T k0 x1 x2 (S.1 (zr T k0 53) (((256 * (x1 - 1)) + x2) : Int32).toNatClampNeg) S)
noncomputable def fX12_plans_l26 (T : zT) (k0 : Nat) (x1 : Int32) (S : zS) : Option ((Int32 × zS) ⊕ zS) :=
  zgd (zin 0 2) (if (S.1 (zr T k0 33) (0 : Int32).toNatClampNeg) ≤ x1 then some (.inr S) else zb1 (lp (fun a => fX12_plans_l38 T k0 x1 a.1 a.2) (0, S)) fun e32 => zlet (x1 + 1) fun u33 => some (.inl (u33, e32)))
noncomputable def fX12_plans (T : zT) (k0 : Nat) (S : zS) : Option (Unit × zS) :=
  zb1 (lp (fun a => fX12_plans_l2 T k0 a.1 a.2) (0, S)) fun e5 => zb1 (lp (fun a => fX12_plans_l26 T k0 a.1 a.2) (0, e5)) fun e36 => some ((), e36)
set_option maxHeartbeats 4000000 in
set_option maxRecDepth 100000 in
theorem tX12_plans_l2b (T : zT) (k0 : Nat) (x1 : Int32) (S : zS) (h0 : iX12 T k0) {g : zG} {v : Option Value} {S' : zS} (r : (Int32 × zS) ⊕ zS) (h : fX12_plans_l2 T k0 x1 S = some r) (K1 : ∀ a : (Int32 × zS), r = .inl a → zg g 5 mX12_plans T 2 [some (.ref k0), some (.int a.1), none, none, none, none, none, none, none] [] T a.2 v T S') (K2_0 : ∀ e : zS, r = .inr e → zg g 5 mX12_plans T 24 [some (.ref k0), none, none, none, none, none, none, none, none] [] T e v T S') : zg g 5 mX12_plans T 2 [some (.ref k0), some (.int x1), none, none, none, none, none, none, none] [] T S v T S' := by
  unfold fX12_plans_l2 at h
  refine z_iload_n dX12_plans_2 rfl ?_
  refine z_aload_n dX12_plans_3 rfl ?_
  refine z_gA (zF.x zfX12_118) h0.1 dX12_plans_4 ?_
  refine z_alenI h0.2.2.2.2.2.2.2.2.2.2.2.2.2.2.2.2.2.2.2.2.2.2.2.2.2.2.2.2.2.2.2.2.2.2.2.2.1 (by decide) dX12_plans_7 ?_
  refine z_icmp_ge (tgt := 24) dX12_plans_8 (by decide) (fun q1 => ?_) (fun q1 => ?_)
  · rw [if_pos q1] at h
    cases h
    exact z_mask [true, false, false, false, false, false, false, false, false] rfl (K2_0 _ rfl)
  · rw [if_neg q1] at h
    refine z_aload_n dX12_plans_11 rfl ?_
    refine z_gA (zF.x zfX12_118) h0.1 dX12_plans_12 ?_
    refine z_iload_n dX12_plans_15 rfl ?_
    refine z_iconst dX12_plans_16 cI_m1 ?_
    obtain ⟨q2, h⟩ := zgd_elim h
    refine z_iast h0.2.2.2.2.2.2.2.2.2.2.2.2.2.2.2.2.2.2.2.2.2.2.2.2.2.2.2.2.2.2.2.2.2.2.2.2.1 (zin_ok q2) dX12_plans_17 ?_
    obtain ⟨S3, eS3, h⟩ := zlet_elim h
    refine z_tS eS3 ?_
    obtain ⟨u4, eu4, h⟩ := zlet_elim h
    refine z_iinc (r := u4) dX12_plans_18 rfl (by rw [eu4, cI_1]) rfl (by decide) rfl ?_
    refine z_goto (tgt := 2) dX12_plans_21 (by decide) ?_
    cases h
    exact z_mask [true, true, false, false, false, false, false, false, false] rfl (K1 _ rfl)
set_option maxHeartbeats 4000000 in
set_option maxRecDepth 100000 in
theorem tX12_plans_l2 (T : zT) (k0 : Nat) (h0 : iX12 T k0) {g : zG} {v : Option Value} {S' : zS} : ∀ (n : Nat) (a : (Int32 × zS)) (e : zS), lpn (fun a => fX12_plans_l2 T k0 a.1 a.2) n a = some e → (∀ e1 : zS, e = e1 → zg g 5 mX12_plans T 24 [some (.ref k0), none, none, none, none, none, none, none, none] [] T e1 v T S') → zg g 5 mX12_plans T 2 [some (.ref k0), some (.int a.1), none, none, none, none, none, none, none] [] T a.2 v T S' := by
  intro n
  induction n with
  | zero =>
    intro a e h
    cases h
  | succ n ih =>
    intro a e h k0_
    rcases lpn_succ h with ⟨a1, ha_, hb_⟩ | ha_
    · exact tX12_plans_l2b T k0 a.1 a.2 h0 _ ha_ (fun a2 q => by cases q; exact ih a1 e hb_ k0_) (fun e1 q => by cases q)
    · exact tX12_plans_l2b T k0 a.1 a.2 h0 _ ha_ (fun a2 q => by cases q) (fun e1 q => by cases q; exact k0_ _ rfl)
set_option maxHeartbeats 4000000 in
set_option maxRecDepth 100000 in
theorem tX12_plans_b205 (T : zT) (k0 : Nat) (x1 : Int32) (x2 : Int32) (S : zS) (h0 : iX12 T k0) {g : zG} {v : Option Value} {S' : zS} (r : ((Int32 × zS) ⊕ zS)) (h : fX12_plans_b205 T k0 x1 x2 S = some r) (K1 : ∀ a : (Int32 × zS), r = .inl a → zg g 5 mX12_plans T 38 [some (.ref k0), some (.int x1), some (.int a.1), none, none, none, none, none, none] [] T a.2 v T S') (K2_0 : ∀ e : zS, r = .inr e → zg g 5 mX12_plans T 211 [some (.ref k0), some (.int x1), none, none, none, none, none, none, none] [] T e v T S') : zg g 5 mX12_plans T 205 [some (.ref k0), some (.int x1), some (.int x2), none, none, none, none, none, none] [] T S v T S' := by
  unfold fX12_plans_b205 at h
  obtain ⟨u12, eu12, h⟩ := zlet_elim h
  refine z_iinc (r := u12) dX12_plans_205 rfl (by rw [eu12, cI_1]) rfl (by decide) rfl ?_
  refine z_goto (tgt := 38) dX12_plans_208 (by decide) ?_
  cases h
  exact z_mask [true, true, true, false, false, false, false, false, false] rfl (K1 _ rfl)
set_option maxHeartbeats 4000000 in
set_option maxRecDepth 100000 in
theorem tX12_plans_b191 (T : zT) (k0 : Nat) (x1 : Int32) (x2 : Int32) (x3 : Int32) (x4 : Int32) (x5 : Int32) (s0 : Int32) (S : zS) (h0 : iX12 T k0) {g : zG} {v : Option Value} {S' : zS} (r : ((Int32 × Int32 × zS) ⊕ zS)) (h : fX12_plans_b191 T k0 x1 x2 x3 x4 x5 s0 S = some r) (K1 : ∀ a : (Int32 × Int32 × zS), r = .inl a → zg g 5 mX12_plans T 110 [some (.ref k0), some (.int x1), some (.int x2), some (.int x3), some (.int x4), some (.int a.1), some (.int a.2.1), none, none] [] T a.2.2 v T S') (K2_0 : ∀ e : zS, r = .inr e → zg g 5 mX12_plans T 205 [some (.ref k0), some (.int x1), some (.int x2), none, none, none, none, none, none] [] T e v T S') : zg g 5 mX12_plans T 191 [some (.ref k0), some (.int x1), some (.int x2), some (.int x3), some (.int x4), some (.int x5), none, none, none] [.int s0] T S v T S' := by
  unfold fX12_plans_b191 at h
  refine z_istore dX12_plans_191 rfl (by decide) rfl ?_
  refine z_iload dX12_plans_193 rfl ?_
  refine z_iconst dX12_plans_195 cI_1 ?_
  refine z_isub dX12_plans_196 rfl ?_
  refine z_iload dX12_plans_197 rfl ?_
  refine z_iand dX12_plans_199 rfl ?_
  obtain ⟨u26, eu26, h⟩ := zlet_elim h
  refine z_ti eu26 ?_
  refine z_istore dX12_plans_200 rfl (by decide) rfl ?_
  refine z_goto (tgt := 110) dX12_plans_202 (by decide) ?_
  cases h
  exact z_mask [true, true, true, true, true, true, true, false, false] rfl (K1 _ rfl)
set_option maxHeartbeats 4000000 in
set_option maxRecDepth 100000 in
theorem tX12_plans_b180 (T : zT) (k0 : Nat) (x1 : Int32) (x2 : Int32) (x3 : Int32) (x4 : Int32) (x5 : Int32) (s0 : Int32) (s1 : Int32) (s2 : Nat) (m2 : Nat) (S : zS) (h0 : iX12 T k0) (g2 : zL T s2 20 m2) {g : zG} {v : Option Value} {S' : zS} (r : ((Int32 × Int32 × zS) ⊕ zS)) (h : fX12_plans_b180 T k0 x1 x2 x3 x4 x5 s0 s1 s2 m2 S = some r) (K1 : ∀ a : (Int32 × Int32 × zS), r = .inl a → zg g 5 mX12_plans T 110 [some (.ref k0), some (.int x1), some (.int x2), some (.int x3), some (.int x4), some (.int a.1), some (.int a.2.1), none, none] [] T a.2.2 v T S') (K2_0 : ∀ e : zS, r = .inr e → zg g 5 mX12_plans T 205 [some (.ref k0), some (.int x1), some (.int x2), none, none, none, none, none, none] [] T e v T S') : zg g 5 mX12_plans T 180 [some (.ref k0), some (.int x1), some (.int x2), some (.int x3), some (.int x4), some (.int x5), none, none, none] [.int s0, .int s1, .ref s2] T S v T S' := by
  unfold fX12_plans_b180 at h
  obtain ⟨q23, h⟩ := zgd_elim h
  refine z_iast g2 (zin_ok q23) dX12_plans_180 ?_
  obtain ⟨S24, eS24, h⟩ := zlet_elim h
  refine z_tS eS24 ?_
  refine z_iload dX12_plans_181 rfl ?_
  refine z_if_eq (tgt := 190) dX12_plans_183 (by decide) (fun q25 => ?_) (fun q25 => ?_)
  · rw [if_pos q25] at h
    refine z_iconst dX12_plans_190 cI_0 ?_
    exact z_mask [true, true, true, true, true, true, false, false, false] rfl (tX12_plans_b191 T k0 x1 x2 x3 x4 x5 0 S24 h0 r h K1 K2_0)
  · rw [if_neg q25] at h
    refine z_iconst dX12_plans_186 cI_1 ?_
    refine z_goto (tgt := 191) dX12_plans_187 (by decide) ?_
    exact z_mask [true, true, true, true, true, true, false, false, false] rfl (tX12_plans_b191 T k0 x1 x2 x3 x4 x5 1 S24 h0 r h K1 K2_0)
set_option maxHeartbeats 4000000 in
set_option maxRecDepth 100000 in
theorem tX12_plans_l110b (T : zT) (k0 : Nat) (x1 : Int32) (x2 : Int32) (x3 : Int32) (x4 : Int32) (x5 : Int32) (x6 : Int32) (S : zS) (h0 : iX12 T k0) {g : zG} {v : Option Value} {S' : zS} (r : (Int32 × Int32 × zS) ⊕ zS) (h : fX12_plans_l110 T k0 x1 x2 x3 x4 x5 x6 S = some r) (K1 : ∀ a : (Int32 × Int32 × zS), r = .inl a → zg g 5 mX12_plans T 110 [some (.ref k0), some (.int x1), some (.int x2), some (.int x3), some (.int x4), some (.int a.1), some (.int a.2.1), none, none] [] T a.2.2 v T S') (K2_0 : ∀ e : zS, r = .inr e → zg g 5 mX12_plans T 205 [some (.ref k0), some (.int x1), some (.int x2), none, none, none, none, none, none] [] T e v T S') : zg g 5 mX12_plans T 110 [some (.ref k0), some (.int x1), some (.int x2), some (.int x3), some (.int x4), some (.int x5), some (.int x6), none, none] [] T S v T S' := by
  unfold fX12_plans_l110 at h
  refine z_iload dX12_plans_110 rfl ?_
  refine z_if_eq (tgt := 205) dX12_plans_112 (by decide) (fun q15 => ?_) (fun q15 => ?_)
  · rw [if_pos q15] at h
    cases h
    exact z_mask [true, true, true, false, false, false, false, false, false] rfl (K2_0 _ rfl)
  · rw [if_neg q15] at h
    refine z_iload_n dX12_plans_115 rfl ?_
    refine z_iload dX12_plans_116 rfl ?_
    refine z_ior dX12_plans_118 rfl ?_
    obtain ⟨u16, eu16, h⟩ := zlet_elim h
    refine z_ti eu16 ?_
    refine z_istore dX12_plans_119 rfl (by decide) rfl ?_
    refine z_aload_n dX12_plans_121 rfl ?_
    refine z_iload_n dX12_plans_122 rfl ?_
    refine z_iload_n dX12_plans_123 rfl ?_
    refine z_iload dX12_plans_124 rfl ?_
    refine z_iload_n dX12_plans_126 rfl ?_
    obtain ⟨r17, S19, hc18, h⟩ := zb_elim h
    refine z_callV (As := [.int x3, .int x2, .int u16, .int x1]) zcX12 zkX12_485 ziX12_leads zqX12_leads h0.1 (tX12_leads T k0 x3 x2 u16 x1 S h0 (r17, S19) hc18) rfl rfl (Nat.le_of_ble_eq_true rfl) (by decide) ⟨Nat.le_refl _, Nat.le_refl _⟩ ⟨Nat.le_refl _, Nat.le_refl _⟩ dX12_plans_127 ?_
    refine z_istore dX12_plans_130 rfl (by decide) rfl ?_
    refine z_aload_n dX12_plans_132 rfl ?_
    refine z_gA (zF.x zfX12_118) h0.1 dX12_plans_133 ?_
    refine z_sipush dX12_plans_136 cS_256 ?_
    refine z_iload_n dX12_plans_139 rfl ?_
    refine z_imul dX12_plans_140 rfl ?_
    refine z_iload dX12_plans_141 rfl ?_
    refine z_iadd dX12_plans_143 rfl ?_
    refine z_iload dX12_plans_144 rfl ?_
    refine z_aload_n dX12_plans_146 rfl ?_
    refine z_gA (zF.x zfX12_118) h0.1 dX12_plans_147 ?_
    refine z_sipush dX12_plans_150 cS_256 ?_
    refine z_iload_n dX12_plans_153 rfl ?_
    refine z_imul dX12_plans_154 rfl ?_
    refine z_iload dX12_plans_155 rfl ?_
    refine z_iadd dX12_plans_157 rfl ?_
    obtain ⟨q20, h⟩ := zgd_elim h
    refine z_iald h0.2.2.2.2.2.2.2.2.2.2.2.2.2.2.2.2.2.2.2.2.2.2.2.2.2.2.2.2.2.2.2.2.2.2.2.2.1 (zin_ok q20) dX12_plans_158 ?_
    refine z_icmp_le (tgt := 167) dX12_plans_159 (by decide) (fun q21 => ?_) (fun q21 => ?_)
    · rw [if_pos q21] at h
      refine z_aload_n dX12_plans_167 rfl ?_
      refine z_gA (zF.x zfX12_118) h0.1 dX12_plans_168 ?_
      refine z_sipush dX12_plans_171 cS_256 ?_
      refine z_iload_n dX12_plans_174 rfl ?_
      refine z_imul dX12_plans_175 rfl ?_
      refine z_iload dX12_plans_176 rfl ?_
      refine z_iadd dX12_plans_178 rfl ?_
      obtain ⟨q22, h⟩ := zgd_elim h
      refine z_iald h0.2.2.2.2.2.2.2.2.2.2.2.2.2.2.2.2.2.2.2.2.2.2.2.2.2.2.2.2.2.2.2.2.2.2.2.2.1 (zin_ok q22) dX12_plans_179 ?_
      exact z_mask [true, true, true, true, true, true, false, false, false] rfl (tX12_plans_b180 T k0 x1 x2 x3 x4 x5 (S19.1 (zr T k0 53) (((256 * x1) + u16) : Int32).toNatClampNeg) ((256 * x1) + u16) (zr T k0 53) 15360 S19 h0 h0.2.2.2.2.2.2.2.2.2.2.2.2.2.2.2.2.2.2.2.2.2.2.2.2.2.2.2.2.2.2.2.2.2.2.2.2.1 r h K1 K2_0)
    · rw [if_neg q21] at h
      refine z_iload dX12_plans_162 rfl ?_
      refine z_goto (tgt := 180) dX12_plans_164 (by decide) ?_
      exact z_mask [true, true, true, true, true, true, false, false, false] rfl (tX12_plans_b180 T k0 x1 x2 x3 x4 x5 r17 ((256 * x1) + u16) (zr T k0 53) 15360 S19 h0 h0.2.2.2.2.2.2.2.2.2.2.2.2.2.2.2.2.2.2.2.2.2.2.2.2.2.2.2.2.2.2.2.2.2.2.2.2.1 r h K1 K2_0)
set_option maxHeartbeats 4000000 in
set_option maxRecDepth 100000 in
theorem tX12_plans_l110 (T : zT) (k0 : Nat) (x1 : Int32) (x2 : Int32) (x3 : Int32) (x4 : Int32) (h0 : iX12 T k0) {g : zG} {v : Option Value} {S' : zS} : ∀ (n : Nat) (a : (Int32 × Int32 × zS)) (e : zS), lpn (fun a => fX12_plans_l110 T k0 x1 x2 x3 x4 a.1 a.2.1 a.2.2) n a = some e → (∀ e1 : zS, e = e1 → zg g 5 mX12_plans T 205 [some (.ref k0), some (.int x1), some (.int x2), none, none, none, none, none, none] [] T e1 v T S') → zg g 5 mX12_plans T 110 [some (.ref k0), some (.int x1), some (.int x2), some (.int x3), some (.int x4), some (.int a.1), some (.int a.2.1), none, none] [] T a.2.2 v T S' := by
  intro n
  induction n with
  | zero =>
    intro a e h
    cases h
  | succ n ih =>
    intro a e h k0_
    rcases lpn_succ h with ⟨a1, ha_, hb_⟩ | ha_
    · exact tX12_plans_l110b T k0 x1 x2 x3 x4 a.1 a.2.1 a.2.2 h0 _ ha_ (fun a2 q => by cases q; exact ih a1 e hb_ k0_) (fun e1 q => by cases q)
    · exact tX12_plans_l110b T k0 x1 x2 x3 x4 a.1 a.2.1 a.2.2 h0 _ ha_ (fun a2 q => by cases q) (fun e1 q => by cases q; exact k0_ _ rfl)
set_option maxHeartbeats 4000000 in
set_option maxRecDepth 100000 in
theorem tX12_plans_b89 (T : zT) (k0 : Nat) (x1 : Int32) (x2 : Int32) (s0 : Int32) (S : zS) (h0 : iX12 T k0) {g : zG} {v : Option Value} {S' : zS} (r : ((Int32 × zS) ⊕ zS)) (h : fX12_plans_b89 T k0 x1 x2 s0 S = some r) (K1 : ∀ a : (Int32 × zS), r = .inl a → zg g 5 mX12_plans T 38 [some (.ref k0), some (.int x1), some (.int a.1), none, none, none, none, none, none] [] T a.2 v T S') (K2_0 : ∀ e : zS, r = .inr e → zg g 5 mX12_plans T 211 [some (.ref k0), some (.int x1), none, none, none, none, none, none, none] [] T e v T S') : zg g 5 mX12_plans T 89 [some (.ref k0), some (.int x1), some (.int x2), none, none, none, none, none, none] [.int s0] T S v T S' := by
  unfold fX12_plans_b89 at h
  refine z_istore_n dX12_plans_89 rfl (by decide) rfl ?_
  refine z_iload_n dX12_plans_90 rfl ?_
  refine z_iconst dX12_plans_91 cI_m1 ?_
  refine z_icmp_eq (tgt := 205) dX12_plans_92 (by decide) (fun q11 => ?_) (fun q11 => ?_)
  · rw [if_pos q11] at h
    exact z_mask [true, true, true, false, false, false, false, false, false] rfl (tX12_plans_b205 T k0 x1 x2 S h0 r h K1 K2_0)
  · rw [if_neg q11] at h
    refine z_aload_n dX12_plans_95 rfl ?_
    refine z_iload_n dX12_plans_96 rfl ?_
    refine z_iload_n dX12_plans_97 rfl ?_
    obtain ⟨r13, hc14, h⟩ := zb1_elim h
    refine z_callV (As := [.int x2, .int x1]) zcX12 zkX12_482 ziX12_fetchable zqX12_fetchable h0.1 (tX12_fetchable T k0 x2 x1 S h0 r13 hc14) rfl rfl (Nat.le_of_ble_eq_true rfl) (by decide) ⟨Nat.le_refl _, Nat.le_refl _⟩ ⟨Nat.le_refl _, Nat.le_refl _⟩ dX12_plans_98 ?_
    refine z_istore dX12_plans_101 rfl (by decide) rfl ?_
    refine z_iload dX12_plans_103 rfl ?_
    refine z_istore dX12_plans_105 rfl (by decide) rfl ?_
    refine z_iconst dX12_plans_107 cI_1 ?_
    refine z_istore dX12_plans_108 rfl (by decide) rfl ?_
    obtain ⟨e27, hl28, h⟩ := zb1_elim h
    obtain ⟨nf29, hl28⟩ := lp_some hl28
    refine z_mask [true, true, true, true, true, true, true, false, false] rfl (tX12_plans_l110 T k0 x1 x2 s0 r13 h0 nf29 (r13, 1, S) e27 hl28 (fun e_ q => ?_))
    · cases q
      exact z_mask [true, true, true, false, false, false, false, false, false] rfl (tX12_plans_b205 T k0 x1 x2 e27 h0 r h K1 K2_0)
set_option maxHeartbeats 4000000 in
set_option maxRecDepth 100000 in
theorem tX12_plans_b71 (T : zT) (k0 : Nat) (x1 : Int32) (x2 : Int32) (S : zS) (h0 : iX12 T k0) {g : zG} {v : Option Value} {S' : zS} (r : ((Int32 × zS) ⊕ zS)) (h : fX12_plans_b71 T k0 x1 x2 S = some r) (K1 : ∀ a : (Int32 × zS), r = .inl a → zg g 5 mX12_plans T 38 [some (.ref k0), some (.int x1), some (.int a.1), none, none, none, none, none, none] [] T a.2 v T S') (K2_0 : ∀ e : zS, r = .inr e → zg g 5 mX12_plans T 211 [some (.ref k0), some (.int x1), none, none, none, none, none, none, none] [] T e v T S') : zg g 5 mX12_plans T 71 [some (.ref k0), some (.int x1), some (.int x2), none, none, none, none, none, none] [] T S v T S' := by
  unfold fX12_plans_b71 at h
  refine z_iconst dX12_plans_71 cI_m1 ?_
  refine z_goto (tgt := 89) dX12_plans_72 (by decide) ?_
  exact z_mask [true, true, true, false, false, false, false, false, false] rfl (tX12_plans_b89 T k0 x1 x2 (-1) S h0 r h K1 K2_0)
set_option maxHeartbeats 4000000 in
set_option maxRecDepth 100000 in
theorem tX12_plans_l38b (T : zT) (k0 : Nat) (x1 : Int32) (x2 : Int32) (S : zS) (h0 : iX12 T k0) {g : zG} {v : Option Value} {S' : zS} (r : (Int32 × zS) ⊕ zS) (h : fX12_plans_l38 T k0 x1 x2 S = some r) (K1 : ∀ a : (Int32 × zS), r = .inl a → zg g 5 mX12_plans T 38 [some (.ref k0), some (.int x1), some (.int a.1), none, none, none, none, none, none] [] T a.2 v T S') (K2_0 : ∀ e : zS, r = .inr e → zg g 5 mX12_plans T 211 [some (.ref k0), some (.int x1), none, none, none, none, none, none, none] [] T e v T S') : zg g 5 mX12_plans T 38 [some (.ref k0), some (.int x1), some (.int x2), none, none, none, none, none, none] [] T S v T S' := by
  unfold fX12_plans_l38 at h
  refine z_iload_n dX12_plans_38 rfl ?_
  refine z_sipush dX12_plans_39 cS_256 ?_
  refine z_icmp_ge (tgt := 211) dX12_plans_42 (by decide) (fun q8 => ?_) (fun q8 => ?_)
  · rw [if_pos q8] at h
    cases h
    exact z_mask [true, true, false, false, false, false, false, false, false] rfl (K2_0 _ rfl)
  · rw [if_neg q8] at h
    refine z_iload_n dX12_plans_45 rfl ?_
    refine z_if_ne (tgt := 75) dX12_plans_46 (by decide) (fun q9 => ?_) (fun q9 => ?_)
    · rw [if_neg q9] at h
      refine z_aload_n dX12_plans_75 rfl ?_
      refine z_gA (zF.x zfX12_118) h0.1 dX12_plans_76 ?_
      refine z_sipush dX12_plans_79 cS_256 ?_
      refine z_iload_n dX12_plans_82 rfl ?_
      refine z_iconst dX12_plans_83 cI_1 ?_
      refine z_isub dX12_plans_84 rfl ?_
      refine z_imul dX12_plans_85 rfl ?_
      refine z_iload_n dX12_plans_86 rfl ?_
      refine z_iadd dX12_plans_87 rfl ?_
      obtain ⟨q10, h⟩ := zgd_elim h
      refine z_iald h0.2.2.2.2.2.2.2.2.2.2.2.2.2.2.2.2.2.2.2.2.2.2.2.2.2.2.2.2.2.2.2.2.2.2.2.2.1 (zin_ok q10) dX12_plans_88 ?_
      exact z_mask [true, true, true, false, false, false, false, false, false] rfl (tX12_plans_b89 T k0 x1 x2 (S.1 (zr T k0 53) (((256 * (x1 - 1)) + x2) : Int32).toNatClampNeg) S h0 r h K1 K2_0)
    · rw [if_pos q9] at h
      refine z_iload_n dX12_plans_49 rfl ?_
      refine z_aload_n dX12_plans_50 rfl ?_
      refine z_gI (zF.x zfX12_464) h0.1 dX12_plans_51 ?_
      refine z_icmp_ne (tgt := 71) dX12_plans_54 (by decide) (fun q30 => ?_) (fun q30 => ?_)
      · rw [if_neg q30] at h
        exact z_mask [true, true, true, false, false, false, false, false, false] rfl (tX12_plans_b71 T k0 x1 x2 S h0 r h K1 K2_0)
      · rw [if_pos q30] at h
        refine z_aload_n dX12_plans_57 rfl ?_
        refine z_gI (zF.x zfX12_476) h0.1 dX12_plans_58 ?_
        refine z_if_lt (tgt := 71) dX12_plans_61 (by decide) (fun q31 => ?_) (fun q31 => ?_)
        · rw [if_pos q31] at h
          exact z_mask [true, true, true, false, false, false, false, false, false] rfl (tX12_plans_b71 T k0 x1 x2 S h0 r h K1 K2_0)
        · rw [if_neg q31] at h
          refine z_aload_n dX12_plans_64 rfl ?_
          refine z_gI (zF.x zfX12_476) h0.1 dX12_plans_65 ?_
          refine z_goto (tgt := 89) dX12_plans_68 (by decide) ?_
          exact z_mask [true, true, true, false, false, false, false, false, false] rfl (tX12_plans_b89 T k0 x1 x2 (S.1 k0 59) S h0 r h K1 K2_0)
set_option maxHeartbeats 4000000 in
set_option maxRecDepth 100000 in
theorem tX12_plans_l38 (T : zT) (k0 : Nat) (x1 : Int32) (h0 : iX12 T k0) {g : zG} {v : Option Value} {S' : zS} : ∀ (n : Nat) (a : (Int32 × zS)) (e : zS), lpn (fun a => fX12_plans_l38 T k0 x1 a.1 a.2) n a = some e → (∀ e1 : zS, e = e1 → zg g 5 mX12_plans T 211 [some (.ref k0), some (.int x1), none, none, none, none, none, none, none] [] T e1 v T S') → zg g 5 mX12_plans T 38 [some (.ref k0), some (.int x1), some (.int a.1), none, none, none, none, none, none] [] T a.2 v T S' := by
  intro n
  induction n with
  | zero =>
    intro a e h
    cases h
  | succ n ih =>
    intro a e h k0_
    rcases lpn_succ h with ⟨a1, ha_, hb_⟩ | ha_
    · exact tX12_plans_l38b T k0 x1 a.1 a.2 h0 _ ha_ (fun a2 q => by cases q; exact ih a1 e hb_ k0_) (fun e1 q => by cases q)
    · exact tX12_plans_l38b T k0 x1 a.1 a.2 h0 _ ha_ (fun a2 q => by cases q) (fun e1 q => by cases q; exact k0_ _ rfl)
set_option maxHeartbeats 4000000 in
set_option maxRecDepth 100000 in
theorem tX12_plans_l26b (T : zT) (k0 : Nat) (x1 : Int32) (S : zS) (h0 : iX12 T k0) {g : zG} {v : Option Value} {S' : zS} (r : (Int32 × zS) ⊕ zS) (h : fX12_plans_l26 T k0 x1 S = some r) (K1 : ∀ a : (Int32 × zS), r = .inl a → zg g 5 mX12_plans T 26 [some (.ref k0), some (.int a.1), none, none, none, none, none, none, none] [] T a.2 v T S') (K2_0 : ∀ e : zS, r = .inr e → zg g 5 mX12_plans T 217 [none, none, none, none, none, none, none, none, none] [] T e v T S') : zg g 5 mX12_plans T 26 [some (.ref k0), some (.int x1), none, none, none, none, none, none, none] [] T S v T S' := by
  unfold fX12_plans_l26 at h
  refine z_iload_n dX12_plans_26 rfl ?_
  refine z_aload_n dX12_plans_27 rfl ?_
  refine z_gA (zF.x zfX12_77) h0.1 dX12_plans_28 ?_
  refine z_iconst dX12_plans_31 cI_0 ?_
  obtain ⟨q6, h⟩ := zgd_elim h
  refine z_iald h0.2.2.2.2.2.2.2.2.2.2.2.2.2.2.2.2.2.2.2.2.2.2.2.1 (zin_ok q6) dX12_plans_32 ?_
  refine z_icmp_ge (tgt := 217) dX12_plans_33 (by decide) (fun q7 => ?_) (fun q7 => ?_)
  · rw [if_pos q7] at h
    cases h
    exact z_mask [false, false, false, false, false, false, false, false, false] rfl (K2_0 _ rfl)
  · rw [if_neg q7] at h
    refine z_iconst dX12_plans_36 cI_0 ?_
    refine z_istore_n dX12_plans_37 rfl (by decide) rfl ?_
    obtain ⟨e32, hl34, h⟩ := zb1_elim h
    obtain ⟨nf35, hl34⟩ := lp_some hl34
    refine z_mask [true, true, true, false, false, false, false, false, false] rfl (tX12_plans_l38 T k0 x1 h0 nf35 (0, S) e32 hl34 (fun e_ q => ?_))
    · cases q
      obtain ⟨u33, eu33, h⟩ := zlet_elim h
      refine z_iinc (r := u33) dX12_plans_211 rfl (by rw [eu33, cI_1]) rfl (by decide) rfl ?_
      refine z_goto (tgt := 26) dX12_plans_214 (by decide) ?_
      cases h
      exact z_mask [true, true, false, false, false, false, false, false, false] rfl (K1 _ rfl)
set_option maxHeartbeats 4000000 in
set_option maxRecDepth 100000 in
theorem tX12_plans_l26 (T : zT) (k0 : Nat) (h0 : iX12 T k0) {g : zG} {v : Option Value} {S' : zS} : ∀ (n : Nat) (a : (Int32 × zS)) (e : zS), lpn (fun a => fX12_plans_l26 T k0 a.1 a.2) n a = some e → (∀ e1 : zS, e = e1 → zg g 5 mX12_plans T 217 [none, none, none, none, none, none, none, none, none] [] T e1 v T S') → zg g 5 mX12_plans T 26 [some (.ref k0), some (.int a.1), none, none, none, none, none, none, none] [] T a.2 v T S' := by
  intro n
  induction n with
  | zero =>
    intro a e h
    cases h
  | succ n ih =>
    intro a e h k0_
    rcases lpn_succ h with ⟨a1, ha_, hb_⟩ | ha_
    · exact tX12_plans_l26b T k0 a.1 a.2 h0 _ ha_ (fun a2 q => by cases q; exact ih a1 e hb_ k0_) (fun e1 q => by cases q)
    · exact tX12_plans_l26b T k0 a.1 a.2 h0 _ ha_ (fun a2 q => by cases q) (fun e1 q => by cases q; exact k0_ _ rfl)
set_option maxHeartbeats 4000000 in
set_option maxRecDepth 100000 in
theorem tX12_plans (T : zT) (k0 : Nat) (S : zS) (h0 : iX12 T k0) (r : Unit × zS) (h : fX12_plans T k0 S = some r) : zGM 5 mX12_plans [.ref k0] T S none T r.2 := by
  refine zGM_of zpnX12 rfl (Nat.le_of_ble_eq_true rfl) (fun g => ?_)
  show zg g 5 mX12_plans T 0 [some (.ref k0), none, none, none, none, none, none, none, none] [] T S none T r.2
  unfold fX12_plans at h
  refine z_iconst dX12_plans_0 cI_0 ?_
  refine z_istore_n dX12_plans_1 rfl (by decide) rfl ?_
  obtain ⟨e5, hl39, h⟩ := zb1_elim h
  obtain ⟨nf40, hl39⟩ := lp_some hl39
  refine z_mask [true, true, false, false, false, false, false, false, false] rfl (tX12_plans_l2 T k0 h0 nf40 (0, S) e5 hl39 (fun e_ q => ?_))
  · cases q
    refine z_iconst dX12_plans_24 cI_0 ?_
    refine z_istore_n dX12_plans_25 rfl (by decide) rfl ?_
    obtain ⟨e36, hl37, h⟩ := zb1_elim h
    obtain ⟨nf38, hl37⟩ := lp_some hl37
    refine z_mask [true, true, false, false, false, false, false, false, false] rfl (tX12_plans_l26 T k0 h0 nf38 (0, e5) e36 hl37 (fun e_ q => ?_))
    · cases q
      cases h
      exact z_vret rfl dX12_plans_217
/-! X12_goesBack -/
noncomputable def fX12_goesBack_b135 (T : zT) (k0 : Nat) (x1 : Int32) (x2 : Int32) (x4 : Int32) (s0 : Int32) (S : zS) : Option ((Int32 × Int32 × zS) ⊕ (Int32 × zS)) :=
  zlet (x4 + (-1)) fun u14 => some (.inl (s0, u14, S))
noncomputable def fX12_goesBack_b134 (T : zT) (k0 : Nat) (x1 : Int32) (x2 : Int32) (x3 : Int32) (x4 : Int32) (S : zS) : Option ((Int32 × Int32 × zS) ⊕ (Int32 × zS)) :=
  fX12_goesBack_b135 T k0 x1 x2 x4 x3 S
noncomputable def fX12_goesBack_b97 (T : zT) (k0 : Nat) (x1 : Int32) (x2 : Int32) (x3 : Int32) (x4 : Int32) (x5 : Int32) (s0 : Int32) (S : zS) : Option ((Int32 × Int32 × zS) ⊕ (Int32 × zS)) :=
  if s0 = 0 then fX12_goesBack_b134 T k0 x1 x2 x3 x4 S else zb (fX12_leads T k0 x5 x4 x1 x2 S) fun r15 S17 => zgd (zin ((256 * x2) + x1) 15360) (if r15 = (S17.1 (zr T k0 53) (((256 * x2) + x1) : Int32).toNatClampNeg) then fX12_goesBack_b135 T k0 x1 x2 x4 x4 S17 else fX12_goesBack_b134 T k0 x1 x2 x3 x4 S17)
noncomputable def fX12_goesBack_b96 (T : zT) (k0 : Nat) (x1 : Int32) (x2 : Int32) (x3 : Int32) (x4 : Int32) (x5 : Int32) (S : zS) : Option ((Int32 × Int32 × zS) ⊕ (Int32 × zS)) :=
  fX12_goesBack_b97 T k0 x1 x2 x3 x4 x5 0 S
noncomputable def fX12_goesBack_l32 (T : zT) (k0 : Nat) (x1 : Int32) (x2 : Int32) (x3 : Int32) (x4 : Int32) (S : zS) : Option ((Int32 × Int32 × zS) ⊕ (Int32 × zS)) :=
  if x4 < 0 then some (.inr (x3, S)) else if x2 ≤ 0 then some (.inr (x3, S)) else zgd (zin ((256 * (x2 - 1)) + x4) 15360) (zlet (S.1 (zr T k0 53) (((256 * (x2 - 1)) + x4) : Int32).toNatClampNeg) fun u11 => if u11 = (-1) then fX12_goesBack_b96 T k0 x1 x2 x3 x4 u11 S else if (x4 &&& (x1 ^^^ (-1))) = 0 then zb1 (fX12_fetchable T k0 x4 x2 S) fun r21 => if ((x1 &&& (x4 ^^^ (-1))) &&& (r21 ^^^ (-1))) = 0 then fX12_goesBack_b97 T k0 x1 x2 x3 x4 u11 1 S else fX12_goesBack_b96 T k0 x1 x2 x3 x4 u11 S else fX12_goesBack_b96 T k0 x1 x2 x3 x4 u11 S)
noncomputable def fX12_goesBack_b142 (T : zT) (k0 : Nat) (x2 : Int32) (x3 : Int32) (S : zS) : Option ((Int32 × Int32 × zS) ⊕ zS) :=
  zlet (x2 + (-1)) fun u25 => some (.inl (x3, u25, S))
noncomputable def fX12_goesBack_l14 (T : zT) (k0 : Nat) (x1 : Int32) (x2 : Int32) (S : zS) : Option ((Int32 × Int32 × zS) ⊕ zS) :=
  if x2 < 0 then some (.inr S) else zgd (zin x2 60) (zlet (zI S (zr T k0 60) (x2 : Int32).toNatClampNeg x1) fun S7 => zb1 (lp (fun a => fX12_goesBack_l32 T k0 x1 x2 a.1 a.2.1 a.2.2) (0, 255, S7)) fun e24 => fX12_goesBack_b142 T k0 x2 e24.1 e24.2)
noncomputable def fX12_goesBack (T : zT) (k0 : Nat) (S : zS) : Option (Unit × zS) :=
  zb1 (fX12_atEnd T k0 S) fun r1 => zgd (zin 0 2) (zlet ((S.1 (zr T k0 33) (0 : Int32).toNatClampNeg) - 1) fun u4 => zb1 (lp (fun a => fX12_goesBack_l14 T k0 a.1 a.2.1 a.2.2) (r1, u4, S)) fun e28 => some ((), e28))
set_option maxHeartbeats 4000000 in
set_option maxRecDepth 100000 in
theorem tX12_goesBack_b135 (T : zT) (k0 : Nat) (x1 : Int32) (x2 : Int32) (x4 : Int32) (s0 : Int32) (S : zS) (h0 : iX12 T k0) {g : zG} {v : Option Value} {S' : zS} (r : ((Int32 × Int32 × zS) ⊕ (Int32 × zS))) (h : fX12_goesBack_b135 T k0 x1 x2 x4 s0 S = some r) (K1 : ∀ a : (Int32 × Int32 × zS), r = .inl a → zg g 5 mX12_goesBack T 32 [some (.ref k0), some (.int x1), some (.int x2), some (.int a.1), some (.int a.2.1), none, none] [] T a.2.2 v T S') (K2_0 : ∀ e : (Int32 × zS), r = .inr e → zg g 5 mX12_goesBack T 142 [some (.ref k0), none, some (.int x2), some (.int e.1), none, none, none] [] T e.2 v T S') : zg g 5 mX12_goesBack T 135 [some (.ref k0), some (.int x1), some (.int x2), none, some (.int x4), none, none] [.int s0] T S v T S' := by
  unfold fX12_goesBack_b135 at h
  refine z_istore_n dX12_goesBack_135 rfl (by decide) rfl ?_
  obtain ⟨u14, eu14, h⟩ := zlet_elim h
  refine z_iinc (r := u14) dX12_goesBack_136 rfl (by rw [eu14, cI_m1]) rfl (by decide) rfl ?_
  refine z_goto (tgt := 32) dX12_goesBack_139 (by decide) ?_
  cases h
  exact z_mask [true, true, true, true, true, false, false] rfl (K1 _ rfl)
set_option maxHeartbeats 4000000 in
set_option maxRecDepth 100000 in
theorem tX12_goesBack_b134 (T : zT) (k0 : Nat) (x1 : Int32) (x2 : Int32) (x3 : Int32) (x4 : Int32) (S : zS) (h0 : iX12 T k0) {g : zG} {v : Option Value} {S' : zS} (r : ((Int32 × Int32 × zS) ⊕ (Int32 × zS))) (h : fX12_goesBack_b134 T k0 x1 x2 x3 x4 S = some r) (K1 : ∀ a : (Int32 × Int32 × zS), r = .inl a → zg g 5 mX12_goesBack T 32 [some (.ref k0), some (.int x1), some (.int x2), some (.int a.1), some (.int a.2.1), none, none] [] T a.2.2 v T S') (K2_0 : ∀ e : (Int32 × zS), r = .inr e → zg g 5 mX12_goesBack T 142 [some (.ref k0), none, some (.int x2), some (.int e.1), none, none, none] [] T e.2 v T S') : zg g 5 mX12_goesBack T 134 [some (.ref k0), some (.int x1), some (.int x2), some (.int x3), some (.int x4), none, none] [] T S v T S' := by
  unfold fX12_goesBack_b134 at h
  refine z_iload_n dX12_goesBack_134 rfl ?_
  exact z_mask [true, true, true, false, true, false, false] rfl (tX12_goesBack_b135 T k0 x1 x2 x4 x3 S h0 r h K1 K2_0)
set_option maxHeartbeats 4000000 in
set_option maxRecDepth 100000 in
theorem tX12_goesBack_b97 (T : zT) (k0 : Nat) (x1 : Int32) (x2 : Int32) (x3 : Int32) (x4 : Int32) (x5 : Int32) (s0 : Int32) (S : zS) (h0 : iX12 T k0) {g : zG} {v : Option Value} {S' : zS} (r : ((Int32 × Int32 × zS) ⊕ (Int32 × zS))) (h : fX12_goesBack_b97 T k0 x1 x2 x3 x4 x5 s0 S = some r) (K1 : ∀ a : (Int32 × Int32 × zS), r = .inl a → zg g 5 mX12_goesBack T 32 [some (.ref k0), some (.int x1), some (.int x2), some (.int a.1), some (.int a.2.1), none, none] [] T a.2.2 v T S') (K2_0 : ∀ e : (Int32 × zS), r = .inr e → zg g 5 mX12_goesBack T 142 [some (.ref k0), none, some (.int x2), some (.int e.1), none, none, none] [] T e.2 v T S') : zg g 5 mX12_goesBack T 97 [some (.ref k0), some (.int x1), some (.int x2), some (.int x3), some (.int x4), some (.int x5), none] [.int s0] T S v T S' := by
  unfold fX12_goesBack_b97 at h
  refine z_istore dX12_goesBack_97 rfl (by decide) rfl ?_
  refine z_iload dX12_goesBack_99 rfl ?_
  refine z_if_eq (tgt := 134) dX12_goesBack_101 (by decide) (fun q13 => ?_) (fun q13 => ?_)
  · rw [if_pos q13] at h
    exact z_mask [true, true, true, true, true, false, false] rfl (tX12_goesBack_b134 T k0 x1 x2 x3 x4 S h0 r h K1 K2_0)
  · rw [if_neg q13] at h
    refine z_aload_n dX12_goesBack_104 rfl ?_
    refine z_iload dX12_goesBack_105 rfl ?_
    refine z_iload dX12_goesBack_107 rfl ?_
    refine z_iload_n dX12_goesBack_109 rfl ?_
    refine z_iload_n dX12_goesBack_110 rfl ?_
    obtain ⟨r15, S17, hc16, h⟩ := zb_elim h
    refine z_callV (As := [.int x5, .int x4, .int x1, .int x2]) zcX12 zkX12_485 ziX12_leads zqX12_leads h0.1 (tX12_leads T k0 x5 x4 x1 x2 S h0 (r15, S17) hc16) rfl rfl (Nat.le_of_ble_eq_true rfl) (by decide) ⟨Nat.le_refl _, Nat.le_refl _⟩ ⟨Nat.le_refl _, Nat.le_refl _⟩ dX12_goesBack_111 ?_
    refine z_aload_n dX12_goesBack_114 rfl ?_
    refine z_gA (zF.x zfX12_118) h0.1 dX12_goesBack_115 ?_
    refine z_sipush dX12_goesBack_118 cS_256 ?_
    refine z_iload_n dX12_goesBack_121 rfl ?_
    refine z_imul dX12_goesBack_122 rfl ?_
    refine z_iload_n dX12_goesBack_123 rfl ?_
    refine z_iadd dX12_goesBack_124 rfl ?_
    obtain ⟨q18, h⟩ := zgd_elim h
    refine z_iald h0.2.2.2.2.2.2.2.2.2.2.2.2.2.2.2.2.2.2.2.2.2.2.2.2.2.2.2.2.2.2.2.2.2.2.2.2.1 (zin_ok q18) dX12_goesBack_125 ?_
    refine z_icmp_ne (tgt := 134) dX12_goesBack_126 (by decide) (fun q19 => ?_) (fun q19 => ?_)
    · rw [if_neg q19] at h
      exact z_mask [true, true, true, true, true, false, false] rfl (tX12_goesBack_b134 T k0 x1 x2 x3 x4 S17 h0 r h K1 K2_0)
    · rw [if_pos q19] at h
      refine z_iload dX12_goesBack_129 rfl ?_
      refine z_goto (tgt := 135) dX12_goesBack_131 (by decide) ?_
      exact z_mask [true, true, true, false, true, false, false] rfl (tX12_goesBack_b135 T k0 x1 x2 x4 x4 S17 h0 r h K1 K2_0)
set_option maxHeartbeats 4000000 in
set_option maxRecDepth 100000 in
theorem tX12_goesBack_b96 (T : zT) (k0 : Nat) (x1 : Int32) (x2 : Int32) (x3 : Int32) (x4 : Int32) (x5 : Int32) (S : zS) (h0 : iX12 T k0) {g : zG} {v : Option Value} {S' : zS} (r : ((Int32 × Int32 × zS) ⊕ (Int32 × zS))) (h : fX12_goesBack_b96 T k0 x1 x2 x3 x4 x5 S = some r) (K1 : ∀ a : (Int32 × Int32 × zS), r = .inl a → zg g 5 mX12_goesBack T 32 [some (.ref k0), some (.int x1), some (.int x2), some (.int a.1), some (.int a.2.1), none, none] [] T a.2.2 v T S') (K2_0 : ∀ e : (Int32 × zS), r = .inr e → zg g 5 mX12_goesBack T 142 [some (.ref k0), none, some (.int x2), some (.int e.1), none, none, none] [] T e.2 v T S') : zg g 5 mX12_goesBack T 96 [some (.ref k0), some (.int x1), some (.int x2), some (.int x3), some (.int x4), some (.int x5), none] [] T S v T S' := by
  unfold fX12_goesBack_b96 at h
  refine z_iconst dX12_goesBack_96 cI_0 ?_
  exact z_mask [true, true, true, true, true, true, false] rfl (tX12_goesBack_b97 T k0 x1 x2 x3 x4 x5 0 S h0 r h K1 K2_0)
set_option maxHeartbeats 4000000 in
set_option maxRecDepth 100000 in
theorem tX12_goesBack_l32b (T : zT) (k0 : Nat) (x1 : Int32) (x2 : Int32) (x3 : Int32) (x4 : Int32) (S : zS) (h0 : iX12 T k0) {g : zG} {v : Option Value} {S' : zS} (r : (Int32 × Int32 × zS) ⊕ (Int32 × zS)) (h : fX12_goesBack_l32 T k0 x1 x2 x3 x4 S = some r) (K1 : ∀ a : (Int32 × Int32 × zS), r = .inl a → zg g 5 mX12_goesBack T 32 [some (.ref k0), some (.int x1), some (.int x2), some (.int a.1), some (.int a.2.1), none, none] [] T a.2.2 v T S') (K2_0 : ∀ e : (Int32 × zS), r = .inr e → zg g 5 mX12_goesBack T 142 [some (.ref k0), none, some (.int x2), some (.int e.1), none, none, none] [] T e.2 v T S') : zg g 5 mX12_goesBack T 32 [some (.ref k0), some (.int x1), some (.int x2), some (.int x3), some (.int x4), none, none] [] T S v T S' := by
  unfold fX12_goesBack_l32 at h
  refine z_iload dX12_goesBack_32 rfl ?_
  refine z_if_lt (tgt := 142) dX12_goesBack_34 (by decide) (fun q8 => ?_) (fun q8 => ?_)
  · rw [if_pos q8] at h
    cases h
    exact z_mask [true, false, true, true, false, false, false] rfl (K2_0 _ rfl)
  · rw [if_neg q8] at h
    refine z_iload_n dX12_goesBack_37 rfl ?_
    refine z_if_le (tgt := 142) dX12_goesBack_38 (by decide) (fun q9 => ?_) (fun q9 => ?_)
    · rw [if_pos q9] at h
      cases h
      exact z_mask [true, false, true, true, false, false, false] rfl (K2_0 _ rfl)
    · rw [if_neg q9] at h
      refine z_aload_n dX12_goesBack_41 rfl ?_
      refine z_gA (zF.x zfX12_118) h0.1 dX12_goesBack_42 ?_
      refine z_sipush dX12_goesBack_45 cS_256 ?_
      refine z_iload_n dX12_goesBack_48 rfl ?_
      refine z_iconst dX12_goesBack_49 cI_1 ?_
      refine z_isub dX12_goesBack_50 rfl ?_
      refine z_imul dX12_goesBack_51 rfl ?_
      refine z_iload dX12_goesBack_52 rfl ?_
      refine z_iadd dX12_goesBack_54 rfl ?_
      obtain ⟨q10, h⟩ := zgd_elim h
      refine z_iald h0.2.2.2.2.2.2.2.2.2.2.2.2.2.2.2.2.2.2.2.2.2.2.2.2.2.2.2.2.2.2.2.2.2.2.2.2.1 (zin_ok q10) dX12_goesBack_55 ?_
      obtain ⟨u11, eu11, h⟩ := zlet_elim h
      refine z_ti eu11 ?_
      refine z_istore dX12_goesBack_56 rfl (by decide) rfl ?_
      refine z_iload dX12_goesBack_58 rfl ?_
      refine z_iconst dX12_goesBack_60 cI_m1 ?_
      refine z_icmp_eq (tgt := 96) dX12_goesBack_61 (by decide) (fun q12 => ?_) (fun q12 => ?_)
      · rw [if_pos q12] at h
        exact z_mask [true, true, true, true, true, true, false] rfl (tX12_goesBack_b96 T k0 x1 x2 x3 x4 u11 S h0 r h K1 K2_0)
      · rw [if_neg q12] at h
        refine z_iload dX12_goesBack_64 rfl ?_
        refine z_iload_n dX12_goesBack_66 rfl ?_
        refine z_iconst dX12_goesBack_67 cI_m1 ?_
        refine z_ixor dX12_goesBack_68 rfl ?_
        refine z_iand dX12_goesBack_69 rfl ?_
        refine z_if_ne (tgt := 96) dX12_goesBack_70 (by decide) (fun q20 => ?_) (fun q20 => ?_)
        · rw [if_neg q20] at h
          exact z_mask [true, true, true, true, true, true, false] rfl (tX12_goesBack_b96 T k0 x1 x2 x3 x4 u11 S h0 r h K1 K2_0)
        · rw [if_pos q20] at h
          refine z_iload_n dX12_goesBack_73 rfl ?_
          refine z_iload dX12_goesBack_74 rfl ?_
          refine z_iconst dX12_goesBack_76 cI_m1 ?_
          refine z_ixor dX12_goesBack_77 rfl ?_
          refine z_iand dX12_goesBack_78 rfl ?_
          refine z_aload_n dX12_goesBack_79 rfl ?_
          refine z_iload dX12_goesBack_80 rfl ?_
          refine z_iload_n dX12_goesBack_82 rfl ?_
          obtain ⟨r21, hc22, h⟩ := zb1_elim h
          refine z_callV (As := [.int x4, .int x2]) zcX12 zkX12_482 ziX12_fetchable zqX12_fetchable h0.1 (tX12_fetchable T k0 x4 x2 S h0 r21 hc22) rfl rfl (Nat.le_of_ble_eq_true rfl) (by decide) ⟨Nat.le_refl _, Nat.le_refl _⟩ ⟨Nat.le_refl _, Nat.le_refl _⟩ dX12_goesBack_83 ?_
          refine z_iconst dX12_goesBack_86 cI_m1 ?_
          refine z_ixor dX12_goesBack_87 rfl ?_
          refine z_iand dX12_goesBack_88 rfl ?_
          refine z_if_ne (tgt := 96) dX12_goesBack_89 (by decide) (fun q23 => ?_) (fun q23 => ?_)
          · rw [if_neg q23] at h
            exact z_mask [true, true, true, true, true, true, false] rfl (tX12_goesBack_b96 T k0 x1 x2 x3 x4 u11 S h0 r h K1 K2_0)
          · rw [if_pos q23] at h
            refine z_iconst dX12_goesBack_92 cI_1 ?_
            refine z_goto (tgt := 97) dX12_goesBack_93 (by decide) ?_
            exact z_mask [true, true, true, true, true, true, false] rfl (tX12_goesBack_b97 T k0 x1 x2 x3 x4 u11 1 S h0 r h K1 K2_0)
set_option maxHeartbeats 4000000 in
set_option maxRecDepth 100000 in
theorem tX12_goesBack_l32 (T : zT) (k0 : Nat) (x1 : Int32) (x2 : Int32) (h0 : iX12 T k0) {g : zG} {v : Option Value} {S' : zS} : ∀ (n : Nat) (a : (Int32 × Int32 × zS)) (e : (Int32 × zS)), lpn (fun a => fX12_goesBack_l32 T k0 x1 x2 a.1 a.2.1 a.2.2) n a = some e → (∀ e1 : (Int32 × zS), e = e1 → zg g 5 mX12_goesBack T 142 [some (.ref k0), none, some (.int x2), some (.int e1.1), none, none, none] [] T e1.2 v T S') → zg g 5 mX12_goesBack T 32 [some (.ref k0), some (.int x1), some (.int x2), some (.int a.1), some (.int a.2.1), none, none] [] T a.2.2 v T S' := by
  intro n
  induction n with
  | zero =>
    intro a e h
    cases h
  | succ n ih =>
    intro a e h k0_
    rcases lpn_succ h with ⟨a1, ha_, hb_⟩ | ha_
    · exact tX12_goesBack_l32b T k0 x1 x2 a.1 a.2.1 a.2.2 h0 _ ha_ (fun a2 q => by cases q; exact ih a1 e hb_ k0_) (fun e1 q => by cases q)
    · exact tX12_goesBack_l32b T k0 x1 x2 a.1 a.2.1 a.2.2 h0 _ ha_ (fun a2 q => by cases q) (fun e1 q => by cases q; exact k0_ _ rfl)
set_option maxHeartbeats 4000000 in
set_option maxRecDepth 100000 in
theorem tX12_goesBack_b142 (T : zT) (k0 : Nat) (x2 : Int32) (x3 : Int32) (S : zS) (h0 : iX12 T k0) {g : zG} {v : Option Value} {S' : zS} (r : ((Int32 × Int32 × zS) ⊕ zS)) (h : fX12_goesBack_b142 T k0 x2 x3 S = some r) (K1 : ∀ a : (Int32 × Int32 × zS), r = .inl a → zg g 5 mX12_goesBack T 14 [some (.ref k0), some (.int a.1), some (.int a.2.1), none, none, none, none] [] T a.2.2 v T S') (K2_0 : ∀ e : zS, r = .inr e → zg g 5 mX12_goesBack T 150 [none, none, none, none, none, none, none] [] T e v T S') : zg g 5 mX12_goesBack T 142 [some (.ref k0), none, some (.int x2), some (.int x3), none, none, none] [] T S v T S' := by
  unfold fX12_goesBack_b142 at h
  refine z_iload_n dX12_goesBack_142 rfl ?_
  refine z_istore_n dX12_goesBack_143 rfl (by decide) rfl ?_
  obtain ⟨u25, eu25, h⟩ := zlet_elim h
  refine z_iinc (r := u25) dX12_goesBack_144 rfl (by rw [eu25, cI_m1]) rfl (by decide) rfl ?_
  refine z_goto (tgt := 14) dX12_goesBack_147 (by decide) ?_
  cases h
  exact z_mask [true, true, true, false, false, false, false] rfl (K1 _ rfl)
set_option maxHeartbeats 4000000 in
set_option maxRecDepth 100000 in
theorem tX12_goesBack_l14b (T : zT) (k0 : Nat) (x1 : Int32) (x2 : Int32) (S : zS) (h0 : iX12 T k0) {g : zG} {v : Option Value} {S' : zS} (r : (Int32 × Int32 × zS) ⊕ zS) (h : fX12_goesBack_l14 T k0 x1 x2 S = some r) (K1 : ∀ a : (Int32 × Int32 × zS), r = .inl a → zg g 5 mX12_goesBack T 14 [some (.ref k0), some (.int a.1), some (.int a.2.1), none, none, none, none] [] T a.2.2 v T S') (K2_0 : ∀ e : zS, r = .inr e → zg g 5 mX12_goesBack T 150 [none, none, none, none, none, none, none] [] T e v T S') : zg g 5 mX12_goesBack T 14 [some (.ref k0), some (.int x1), some (.int x2), none, none, none, none] [] T S v T S' := by
  unfold fX12_goesBack_l14 at h
  refine z_iload_n dX12_goesBack_14 rfl ?_
  refine z_if_lt (tgt := 150) dX12_goesBack_15 (by decide) (fun q5 => ?_) (fun q5 => ?_)
  · rw [if_pos q5] at h
    cases h
    exact z_mask [false, false, false, false, false, false, false] rfl (K2_0 _ rfl)
  · rw [if_neg q5] at h
    refine z_aload_n dX12_goesBack_18 rfl ?_
    refine z_gA (zF.x zfX12_121) h0.1 dX12_goesBack_19 ?_
    refine z_iload_n dX12_goesBack_22 rfl ?_
    refine z_iload_n dX12_goesBack_23 rfl ?_
    obtain ⟨q6, h⟩ := zgd_elim h
    refine z_iast h0.2.2.2.2.2.2.2.2.2.2.2.2.2.2.2.2.2.2.2.2.2.2.2.2.2.2.2.2.2.2.2.2.2.2.2.2.2.1 (zin_ok q6) dX12_goesBack_24 ?_
    obtain ⟨S7, eS7, h⟩ := zlet_elim h
    refine z_tS eS7 ?_
    refine z_iconst dX12_goesBack_25 cI_0 ?_
    refine z_istore_n dX12_goesBack_26 rfl (by decide) rfl ?_
    refine z_sipush dX12_goesBack_27 cS_255 ?_
    refine z_istore dX12_goesBack_30 rfl (by decide) rfl ?_
    obtain ⟨e24, hl26, h⟩ := zb1_elim h
    obtain ⟨nf27, hl26⟩ := lp_some hl26
    refine z_mask [true, true, true, true, true, false, false] rfl (tX12_goesBack_l32 T k0 x1 x2 h0 nf27 (0, 255, S7) e24 hl26 (fun e_ q => ?_))
    · cases q
      exact z_mask [true, false, true, true, false, false, false] rfl (tX12_goesBack_b142 T k0 x2 e24.1 e24.2 h0 r h K1 K2_0)
set_option maxHeartbeats 4000000 in
set_option maxRecDepth 100000 in
theorem tX12_goesBack_l14 (T : zT) (k0 : Nat) (h0 : iX12 T k0) {g : zG} {v : Option Value} {S' : zS} : ∀ (n : Nat) (a : (Int32 × Int32 × zS)) (e : zS), lpn (fun a => fX12_goesBack_l14 T k0 a.1 a.2.1 a.2.2) n a = some e → (∀ e1 : zS, e = e1 → zg g 5 mX12_goesBack T 150 [none, none, none, none, none, none, none] [] T e1 v T S') → zg g 5 mX12_goesBack T 14 [some (.ref k0), some (.int a.1), some (.int a.2.1), none, none, none, none] [] T a.2.2 v T S' := by
  intro n
  induction n with
  | zero =>
    intro a e h
    cases h
  | succ n ih =>
    intro a e h k0_
    rcases lpn_succ h with ⟨a1, ha_, hb_⟩ | ha_
    · exact tX12_goesBack_l14b T k0 a.1 a.2.1 a.2.2 h0 _ ha_ (fun a2 q => by cases q; exact ih a1 e hb_ k0_) (fun e1 q => by cases q)
    · exact tX12_goesBack_l14b T k0 a.1 a.2.1 a.2.2 h0 _ ha_ (fun a2 q => by cases q) (fun e1 q => by cases q; exact k0_ _ rfl)
set_option maxHeartbeats 4000000 in
set_option maxRecDepth 100000 in
theorem tX12_goesBack (T : zT) (k0 : Nat) (S : zS) (h0 : iX12 T k0) (r : Unit × zS) (h : fX12_goesBack T k0 S = some r) : zGM 5 mX12_goesBack [.ref k0] T S none T r.2 := by
  refine zGM_of zpnX12 rfl (Nat.le_of_ble_eq_true rfl) (fun g => ?_)
  show zg g 5 mX12_goesBack T 0 [some (.ref k0), none, none, none, none, none, none] [] T S none T r.2
  unfold fX12_goesBack at h
  refine z_aload_n dX12_goesBack_0 rfl ?_
  obtain ⟨r1, hc2, h⟩ := zb1_elim h
  refine z_callV (As := []) zcX12 zkX12_494 ziX12_atEnd zqX12_atEnd h0.1 (tX12_atEnd T k0 S h0 r1 hc2) rfl rfl (Nat.le_of_ble_eq_true rfl) (by decide) ⟨Nat.le_refl _, Nat.le_refl _⟩ ⟨Nat.le_refl _, Nat.le_refl _⟩ dX12_goesBack_1 ?_
  refine z_istore_n dX12_goesBack_4 rfl (by decide) rfl ?_
  refine z_aload_n dX12_goesBack_5 rfl ?_
  refine z_gA (zF.x zfX12_77) h0.1 dX12_goesBack_6 ?_
  refine z_iconst dX12_goesBack_9 cI_0 ?_
  obtain ⟨q3, h⟩ := zgd_elim h
  refine z_iald h0.2.2.2.2.2.2.2.2.2.2.2.2.2.2.2.2.2.2.2.2.2.2.2.1 (zin_ok q3) dX12_goesBack_10 ?_
  refine z_iconst dX12_goesBack_11 cI_1 ?_
  refine z_isub dX12_goesBack_12 rfl ?_
  obtain ⟨u4, eu4, h⟩ := zlet_elim h
  refine z_ti eu4 ?_
  refine z_istore_n dX12_goesBack_13 rfl (by decide) rfl ?_
  obtain ⟨e28, hl29, h⟩ := zb1_elim h
  obtain ⟨nf30, hl29⟩ := lp_some hl29
  refine z_mask [true, true, true, false, false, false, false] rfl (tX12_goesBack_l14 T k0 h0 nf30 (r1, u4, S) e28 hl29 (fun e_ q => ?_))
  · cases q
    cases h
    exact z_vret rfl dX12_goesBack_150
/-! X12_likes -/
noncomputable def fX12_likes_b56 (T : zT)  (S : zS) : Option (Int64 × zS) :=
  some (0, S)
noncomputable def fX12_likes (T : zT) (k0 : Nat) (x1 : Int32) (x2 : Int32) (x3 : Int32) (x4 : Int32) (x5 : Int32) (S : zS) : Option (Int64 × zS) :=
  zb1 (fX12_isRule T k0 x1 S) fun r1 => if r1 = 0 then fX12_likes_b56 T  S else zb1 (fX12_has T k0 x2 S) fun r4 => if r4 = 0 then fX12_likes_b56 T  S else zb1 (fX12_isOfBook T k0 x3 S) fun r7 => if r7 = 0 then fX12_likes_b56 T  S else zb1 (fX12_isSet T k0 x4 S) fun r10 => if r10 = 0 then fX12_likes_b56 T  S else if ((x4 >>> (x2 &&& 31)) &&& 1) = 1 then fX12_likes_b56 T  S else zb1 (fX12_in T ((x5 : Int32).toInt64) 0 99999 S) fun r14 => if r14 = 0 then fX12_likes_b56 T  S else zb1 (fX12_all T k0 S) fun r17 => zb (fX12_likesIt T k0 x1 x2 x3 x4 (r17 &&& (x4 ^^^ (-1))) x5 S) fun r19 S21 => some (r19, S21)
set_option maxHeartbeats 4000000 in
set_option maxRecDepth 100000 in
theorem tX12_likes_b56 (T : zT)  (S : zS)  {g : zG} (r : (Int64 × zS)) (h : fX12_likes_b56 T  S = some r)  : zg g 5 mX12_likes T 56 [none, none, none, none, none, none] [] T S (some (.long r.1)) T r.2 := by
  unfold fX12_likes_b56 at h
  refine z_lconst (r := 0) dX12_likes_56 rfl ?_
  cases h
  exact z_lret rfl dX12_likes_57
set_option maxHeartbeats 4000000 in
set_option maxRecDepth 100000 in
theorem tX12_likes (T : zT) (k0 : Nat) (x1 : Int32) (x2 : Int32) (x3 : Int32) (x4 : Int32) (x5 : Int32) (S : zS) (h0 : iX12 T k0) (r : Int64 × zS) (h : fX12_likes T k0 x1 x2 x3 x4 x5 S = some r) : zGM 5 mX12_likes [.ref k0, .int x1, .int x2, .int x3, .int x4, .int x5] T S (some (.long r.1)) T r.2 := by
  refine zGM_of zpnX12 rfl (Nat.le_of_ble_eq_true rfl) (fun g => ?_)
  show zg g 5 mX12_likes T 0 [some (.ref k0), some (.int x1), some (.int x2), some (.int x3), some (.int x4), some (.int x5)] [] T S (some (.long r.1)) T r.2
  unfold fX12_likes at h
  refine z_aload_n dX12_likes_0 rfl ?_
  refine z_iload_n dX12_likes_1 rfl ?_
  obtain ⟨r1, hc2, h⟩ := zb1_elim h
  refine z_callV (As := [.int x1]) zcX12 zkX12_537 ziX12_isRule zqX12_isRule h0.1 (tX12_isRule T k0 x1 S h0 r1 hc2) rfl rfl (Nat.le_of_ble_eq_true rfl) (by decide) ⟨Nat.le_refl _, Nat.le_refl _⟩ ⟨Nat.le_refl _, Nat.le_refl _⟩ dX12_likes_2 ?_
  refine z_if_eq (tgt := 56) dX12_likes_5 (by decide) (fun q3 => ?_) (fun q3 => ?_)
  · rw [if_pos q3] at h
    exact z_mask [false, false, false, false, false, false] rfl (tX12_likes_b56 T  S  r h)
  · rw [if_neg q3] at h
    refine z_aload_n dX12_likes_8 rfl ?_
    refine z_iload_n dX12_likes_9 rfl ?_
    obtain ⟨r4, hc5, h⟩ := zb1_elim h
    refine z_callV (As := [.int x2]) zcX12 zkX12_375 ziX12_has zqX12_has h0.1 (tX12_has T k0 x2 S h0 r4 hc5) rfl rfl (Nat.le_of_ble_eq_true rfl) (by decide) ⟨Nat.le_refl _, Nat.le_refl _⟩ ⟨Nat.le_refl _, Nat.le_refl _⟩ dX12_likes_10 ?_
    refine z_if_eq (tgt := 56) dX12_likes_13 (by decide) (fun q6 => ?_) (fun q6 => ?_)
    · rw [if_pos q6] at h
      exact z_mask [false, false, false, false, false, false] rfl (tX12_likes_b56 T  S  r h)
    · rw [if_neg q6] at h
      refine z_aload_n dX12_likes_16 rfl ?_
      refine z_iload_n dX12_likes_17 rfl ?_
      obtain ⟨r7, hc8, h⟩ := zb1_elim h
      refine z_callV (As := [.int x3]) zcX12 zkX12_526 ziX12_isOfBook zqX12_isOfBook h0.1 (tX12_isOfBook T k0 x3 S h0 r7 hc8) rfl rfl (Nat.le_of_ble_eq_true rfl) (by decide) ⟨Nat.le_refl _, Nat.le_refl _⟩ ⟨Nat.le_refl _, Nat.le_refl _⟩ dX12_likes_18 ?_
      refine z_if_eq (tgt := 56) dX12_likes_21 (by decide) (fun q9 => ?_) (fun q9 => ?_)
      · rw [if_pos q9] at h
        exact z_mask [false, false, false, false, false, false] rfl (tX12_likes_b56 T  S  r h)
      · rw [if_neg q9] at h
        refine z_aload_n dX12_likes_24 rfl ?_
        refine z_iload dX12_likes_25 rfl ?_
        obtain ⟨r10, hc11, h⟩ := zb1_elim h
        refine z_callV (As := [.int x4]) zcX12 zkX12_392 ziX12_isSet zqX12_isSet h0.1 (tX12_isSet T k0 x4 S h0 r10 hc11) rfl rfl (Nat.le_of_ble_eq_true rfl) (by decide) ⟨Nat.le_refl _, Nat.le_refl _⟩ ⟨Nat.le_refl _, Nat.le_refl _⟩ dX12_likes_27 ?_
        refine z_if_eq (tgt := 56) dX12_likes_30 (by decide) (fun q12 => ?_) (fun q12 => ?_)
        · rw [if_pos q12] at h
          exact z_mask [false, false, false, false, false, false] rfl (tX12_likes_b56 T  S  r h)
        · rw [if_neg q12] at h
          refine z_iload dX12_likes_33 rfl ?_
          refine z_iload_n dX12_likes_35 rfl ?_
          refine z_ishr dX12_likes_36 rfl ?_
          refine z_iconst dX12_likes_37 cI_1 ?_
          refine z_iand dX12_likes_38 rfl ?_
          refine z_iconst dX12_likes_39 cI_1 ?_
          refine z_icmp_eq (tgt := 56) dX12_likes_40 (by decide) (fun q13 => ?_) (fun q13 => ?_)
          · rw [if_pos q13] at h
            exact z_mask [false, false, false, false, false, false] rfl (tX12_likes_b56 T  S  r h)
          · rw [if_neg q13] at h
            refine z_iload dX12_likes_43 rfl ?_
            refine z_i2l dX12_likes_45 rfl ?_
            refine z_lconst (r := 0) dX12_likes_46 rfl ?_
            refine z_ldc2 znX12_540 dX12_likes_47 ?_
            obtain ⟨r14, hc15, h⟩ := zb1_elim h
            refine z_callS (As := [.long ((x5 : Int32).toInt64), .long 0, .long 99999]) zkX12_201 zsX12_in (tX12_in T ((x5 : Int32).toInt64) 0 99999 S  r14 hc15) rfl rfl (Nat.le_of_ble_eq_true rfl) (by decide) ⟨Nat.le_refl _, Nat.le_refl _⟩ ⟨Nat.le_refl _, Nat.le_refl _⟩ dX12_likes_50 ?_
            refine z_if_ne (tgt := 58) dX12_likes_53 (by decide) (fun q16 => ?_) (fun q16 => ?_)
            · rw [if_neg q16] at h
              refine z_aload_n dX12_likes_58 rfl ?_
              refine z_iload_n dX12_likes_59 rfl ?_
              refine z_iload_n dX12_likes_60 rfl ?_
              refine z_iload_n dX12_likes_61 rfl ?_
              refine z_iload dX12_likes_62 rfl ?_
              refine z_aload_n dX12_likes_64 rfl ?_
              obtain ⟨r17, hc18, h⟩ := zb1_elim h
              refine z_callV (As := []) zcX12 zkX12_354 ziX12_all zqX12_all h0.1 (tX12_all T k0 S h0 r17 hc18) rfl rfl (Nat.le_of_ble_eq_true rfl) (by decide) ⟨Nat.le_refl _, Nat.le_refl _⟩ ⟨Nat.le_refl _, Nat.le_refl _⟩ dX12_likes_65 ?_
              refine z_iload dX12_likes_68 rfl ?_
              refine z_iconst dX12_likes_70 cI_m1 ?_
              refine z_ixor dX12_likes_71 rfl ?_
              refine z_iand dX12_likes_72 rfl ?_
              refine z_iload dX12_likes_73 rfl ?_
              obtain ⟨r19, S21, hc20, h⟩ := zb_elim h
              refine z_callV (As := [.int x1, .int x2, .int x3, .int x4, .int (r17 &&& (x4 ^^^ (-1))), .int x5]) zcX12 zkX12_542 ziX12_likesIt zqX12_likesIt h0.1 (tX12_likesIt T k0 x1 x2 x3 x4 (r17 &&& (x4 ^^^ (-1))) x5 S h0 (r19, S21) hc20) rfl rfl (Nat.le_of_ble_eq_true rfl) (by decide) ⟨Nat.le_refl _, Nat.le_refl _⟩ ⟨Nat.le_refl _, Nat.le_refl _⟩ dX12_likes_75 ?_
              cases h
              exact z_lret rfl dX12_likes_78
            · rw [if_pos q16] at h
              exact z_mask [false, false, false, false, false, false] rfl (tX12_likes_b56 T  S  r h)
/-! X12_nextOf -/
noncomputable def fX12_nextOf_b114 (T : zT) (k0 : Nat) (x1 : Int32) (x2 : Int32) (x3 : Int32) (x4 : Int32) (x5 : Int32) (x6 : Int32) (l7 : Int64) (x9 : Int32) (S : zS) : Option ((Int32 × Int64 × Int32 × zS) ⊕ (Int32 × zS)) :=
  zlet (x9 + 1) fun u10 => some (.inl (x6, l7, u10, S))
noncomputable def fX12_nextOf_b112 (T : zT) (k0 : Nat) (x1 : Int32) (x2 : Int32) (x3 : Int32) (x4 : Int32) (x5 : Int32) (x6 : Int32) (x9 : Int32) (s0 : Int64) (S : zS) : Option ((Int32 × Int64 × Int32 × zS) ⊕ (Int32 × zS)) :=
  fX12_nextOf_b114 T k0 x1 x2 x3 x4 x5 x6 s0 x9 S
noncomputable def fX12_nextOf_b95 (T : zT) (k0 : Nat) (x1 : Int32) (x2 : Int32) (x3 : Int32) (x4 : Int32) (x5 : Int32) (l7 : Int64) (x9 : Int32) (l10 : Int64) (s0 : Int32) (S : zS) : Option ((Int32 × Int64 × Int32 × zS) ⊕ (Int32 × zS)) :=
  if (lg_cmp l10 l7) ≤ 0 then fX12_nextOf_b112 T k0 x1 x2 x3 x4 x5 s0 x9 l7 S else fX12_nextOf_b112 T k0 x1 x2 x3 x4 x5 s0 x9 l10 S
noncomputable def fX12_nextOf_l29 (T : zT) (k0 : Nat) (x1 : Int32) (x2 : Int32) (x3 : Int32) (x4 : Int32) (x5 : Int32) (x6 : Int32) (l7 : Int64) (x9 : Int32) (S : zS) : Option ((Int32 × Int64 × Int32 × zS) ⊕ (Int32 × zS)) :=
  if 8 ≤ x9 then some (.inr (x6, S)) else zgd (zin x9 8) (if (S.1 (zr T k0 40) (x9 : Int32).toNatClampNeg) = 0 then zb1 (fX12_owedAtFirst T k0 x9 x2 S) fun r11 => if ((S.1 k0 48) - x5) < r11 then fX12_nextOf_b114 T k0 x1 x2 x3 x4 x5 x6 l7 x9 S else zb (fX12_likesIt T k0 x1 x9 x2 x3 x4 (S.1 k0 48) S) fun r14 S16 => if (lg_cmp r14 l7) ≤ 0 then fX12_nextOf_b95 T k0 x1 x2 x3 x4 x5 l7 x9 r14 x6 S16 else fX12_nextOf_b95 T k0 x1 x2 x3 x4 x5 l7 x9 r14 x9 S16 else fX12_nextOf_b114 T k0 x1 x2 x3 x4 x5 x6 l7 x9 S)
noncomputable def fX12_nextOf (T : zT) (k0 : Nat) (x1 : Int32) (x2 : Int32) (S : zS) : Option (Int32 × zS) :=
  zb1 (fX12_placed T k0 1 S) fun r1 => zb1 (fX12_placed T k0 0 S) fun r3 => zb1 (fX12_keeps T k0 x1 S) fun r5 => zb1 (lp (fun a => fX12_nextOf_l29 T k0 x1 x2 r1 r3 r5 a.1 a.2.1 a.2.2.1 a.2.2.2) ((-1), 0, 0, S)) fun e19 => some (e19.1, e19.2)
set_option maxHeartbeats 4000000 in
set_option maxRecDepth 100000 in
theorem tX12_nextOf_b114 (T : zT) (k0 : Nat) (x1 : Int32) (x2 : Int32) (x3 : Int32) (x4 : Int32) (x5 : Int32) (x6 : Int32) (l7 : Int64) (x9 : Int32) (S : zS) (h0 : iX12 T k0) {g : zG} {v : Option Value} {S' : zS} (r : ((Int32 × Int64 × Int32 × zS) ⊕ (Int32 × zS))) (h : fX12_nextOf_b114 T k0 x1 x2 x3 x4 x5 x6 l7 x9 S = some r) (K1 : ∀ a : (Int32 × Int64 × Int32 × zS), r = .inl a → zg g 5 mX12_nextOf T 29 [some (.ref k0), some (.int x1), some (.int x2), some (.int x3), some (.int x4), some (.int x5), some (.int a.1), some (.long a.2.1), none, some (.int a.2.2.1), none, none] [] T a.2.2.2 v T S') (K2_0 : ∀ e : (Int32 × zS), r = .inr e → zg g 5 mX12_nextOf T 120 [none, none, none, none, none, none, some (.int e.1), none, none, none, none, none] [] T e.2 v T S') : zg g 5 mX12_nextOf T 114 [some (.ref k0), some (.int x1), some (.int x2), some (.int x3), some (.int x4), some (.int x5), some (.int x6), some (.long l7), none, some (.int x9), none, none] [] T S v T S' := by
  unfold fX12_nextOf_b114 at h
  obtain ⟨u10, eu10, h⟩ := zlet_elim h
  refine z_iinc (r := u10) dX12_nextOf_114 rfl (by rw [eu10, cI_1]) rfl (by decide) rfl ?_
  refine z_goto (tgt := 29) dX12_nextOf_117 (by decide) ?_
  cases h
  exact z_mask [true, true, true, true, true, true, true, true, false, true, false, false] rfl (K1 _ rfl)
set_option maxHeartbeats 4000000 in
set_option maxRecDepth 100000 in
theorem tX12_nextOf_b112 (T : zT) (k0 : Nat) (x1 : Int32) (x2 : Int32) (x3 : Int32) (x4 : Int32) (x5 : Int32) (x6 : Int32) (x9 : Int32) (s0 : Int64) (S : zS) (h0 : iX12 T k0) {g : zG} {v : Option Value} {S' : zS} (r : ((Int32 × Int64 × Int32 × zS) ⊕ (Int32 × zS))) (h : fX12_nextOf_b112 T k0 x1 x2 x3 x4 x5 x6 x9 s0 S = some r) (K1 : ∀ a : (Int32 × Int64 × Int32 × zS), r = .inl a → zg g 5 mX12_nextOf T 29 [some (.ref k0), some (.int x1), some (.int x2), some (.int x3), some (.int x4), some (.int x5), some (.int a.1), some (.long a.2.1), none, some (.int a.2.2.1), none, none] [] T a.2.2.2 v T S') (K2_0 : ∀ e : (Int32 × zS), r = .inr e → zg g 5 mX12_nextOf T 120 [none, none, none, none, none, none, some (.int e.1), none, none, none, none, none] [] T e.2 v T S') : zg g 5 mX12_nextOf T 112 [some (.ref k0), some (.int x1), some (.int x2), some (.int x3), some (.int x4), some (.int x5), some (.int x6), none, none, some (.int x9), none, none] [.long s0] T S v T S' := by
  unfold fX12_nextOf_b112 at h
  refine z_lstore dX12_nextOf_112 rfl (by decide) rfl ?_
  exact z_mask [true, true, true, true, true, true, true, true, false, true, false, false] rfl (tX12_nextOf_b114 T k0 x1 x2 x3 x4 x5 x6 s0 x9 S h0 r h K1 K2_0)
set_option maxHeartbeats 4000000 in
set_option maxRecDepth 100000 in
theorem tX12_nextOf_b95 (T : zT) (k0 : Nat) (x1 : Int32) (x2 : Int32) (x3 : Int32) (x4 : Int32) (x5 : Int32) (l7 : Int64) (x9 : Int32) (l10 : Int64) (s0 : Int32) (S : zS) (h0 : iX12 T k0) {g : zG} {v : Option Value} {S' : zS} (r : ((Int32 × Int64 × Int32 × zS) ⊕ (Int32 × zS))) (h : fX12_nextOf_b95 T k0 x1 x2 x3 x4 x5 l7 x9 l10 s0 S = some r) (K1 : ∀ a : (Int32 × Int64 × Int32 × zS), r = .inl a → zg g 5 mX12_nextOf T 29 [some (.ref k0), some (.int x1), some (.int x2), some (.int x3), some (.int x4), some (.int x5), some (.int a.1), some (.long a.2.1), none, some (.int a.2.2.1), none, none] [] T a.2.2.2 v T S') (K2_0 : ∀ e : (Int32 × zS), r = .inr e → zg g 5 mX12_nextOf T 120 [none, none, none, none, none, none, some (.int e.1), none, none, none, none, none] [] T e.2 v T S') : zg g 5 mX12_nextOf T 95 [some (.ref k0), some (.int x1), some (.int x2), some (.int x3), some (.int x4), some (.int x5), none, some (.long l7), none, some (.int x9), some (.long l10), none] [.int s0] T S v T S' := by
  unfold fX12_nextOf_b95 at h
  refine z_istore dX12_nextOf_95 rfl (by decide) rfl ?_
  refine z_lload dX12_nextOf_97 rfl ?_
  refine z_lload dX12_nextOf_99 rfl ?_
  refine z_lcmp dX12_nextOf_101 rfl ?_
  refine z_if_le (tgt := 110) dX12_nextOf_102 (by decide) (fun q18 => ?_) (fun q18 => ?_)
  · rw [if_pos q18] at h
    refine z_lload dX12_nextOf_110 rfl ?_
    exact z_mask [true, true, true, true, true, true, true, false, false, true, false, false] rfl (tX12_nextOf_b112 T k0 x1 x2 x3 x4 x5 s0 x9 l7 S h0 r h K1 K2_0)
  · rw [if_neg q18] at h
    refine z_lload dX12_nextOf_105 rfl ?_
    refine z_goto (tgt := 112) dX12_nextOf_107 (by decide) ?_
    exact z_mask [true, true, true, true, true, true, true, false, false, true, false, false] rfl (tX12_nextOf_b112 T k0 x1 x2 x3 x4 x5 s0 x9 l10 S h0 r h K1 K2_0)
set_option maxHeartbeats 4000000 in
set_option maxRecDepth 100000 in
theorem tX12_nextOf_l29b (T : zT) (k0 : Nat) (x1 : Int32) (x2 : Int32) (x3 : Int32) (x4 : Int32) (x5 : Int32) (x6 : Int32) (l7 : Int64) (x9 : Int32) (S : zS) (h0 : iX12 T k0) {g : zG} {v : Option Value} {S' : zS} (r : (Int32 × Int64 × Int32 × zS) ⊕ (Int32 × zS)) (h : fX12_nextOf_l29 T k0 x1 x2 x3 x4 x5 x6 l7 x9 S = some r) (K1 : ∀ a : (Int32 × Int64 × Int32 × zS), r = .inl a → zg g 5 mX12_nextOf T 29 [some (.ref k0), some (.int x1), some (.int x2), some (.int x3), some (.int x4), some (.int x5), some (.int a.1), some (.long a.2.1), none, some (.int a.2.2.1), none, none] [] T a.2.2.2 v T S') (K2_0 : ∀ e : (Int32 × zS), r = .inr e → zg g 5 mX12_nextOf T 120 [none, none, none, none, none, none, some (.int e.1), none, none, none, none, none] [] T e.2 v T S') : zg g 5 mX12_nextOf T 29 [some (.ref k0), some (.int x1), some (.int x2), some (.int x3), some (.int x4), some (.int x5), some (.int x6), some (.long l7), none, some (.int x9), none, none] [] T S v T S' := by
  unfold fX12_nextOf_l29 at h
  refine z_iload dX12_nextOf_29 rfl ?_
  refine z_bipush dX12_nextOf_31 cB_8 ?_
  refine z_icmp_ge (tgt := 120) dX12_nextOf_33 (by decide) (fun q7 => ?_) (fun q7 => ?_)
  · rw [if_pos q7] at h
    cases h
    exact z_mask [false, false, false, false, false, false, true, false, false, false, false, false] rfl (K2_0 _ rfl)
  · rw [if_neg q7] at h
    refine z_aload_n dX12_nextOf_36 rfl ?_
    refine z_gA (zF.x zfX12_96) h0.1 dX12_nextOf_37 ?_
    refine z_iload dX12_nextOf_40 rfl ?_
    obtain ⟨q8, h⟩ := zgd_elim h
    refine z_iald h0.2.2.2.2.2.2.2.2.2.2.2.2.2.2.2.2.2.2.2.2.2.2.2.2.2.2.2.2.2.1 (zin_ok q8) dX12_nextOf_42 ?_
    refine z_if_ne (tgt := 114) dX12_nextOf_43 (by decide) (fun q9 => ?_) (fun q9 => ?_)
    · rw [if_neg q9] at h
      exact z_mask [true, true, true, true, true, true, true, true, false, true, false, false] rfl (tX12_nextOf_b114 T k0 x1 x2 x3 x4 x5 x6 l7 x9 S h0 r h K1 K2_0)
    · rw [if_pos q9] at h
      refine z_aload_n dX12_nextOf_46 rfl ?_
      refine z_iload dX12_nextOf_47 rfl ?_
      refine z_iload_n dX12_nextOf_49 rfl ?_
      obtain ⟨r11, hc12, h⟩ := zb1_elim h
      refine z_callV (As := [.int x9, .int x2]) zcX12 zkX12_385 ziX12_owedAtFirst zqX12_owedAtFirst h0.1 (tX12_owedAtFirst T k0 x9 x2 S h0 r11 hc12) rfl rfl (Nat.le_of_ble_eq_true rfl) (by decide) ⟨Nat.le_refl _, Nat.le_refl _⟩ ⟨Nat.le_refl _, Nat.le_refl _⟩ dX12_nextOf_50 ?_
      refine z_aload_n dX12_nextOf_53 rfl ?_
      refine z_gI (zF.x zfX12_401) h0.1 dX12_nextOf_54 ?_
      refine z_iload dX12_nextOf_57 rfl ?_
      refine z_isub dX12_nextOf_59 rfl ?_
      refine z_icmp_gt (tgt := 114) dX12_nextOf_60 (by decide) (fun q13 => ?_) (fun q13 => ?_)
      · rw [if_pos q13] at h
        exact z_mask [true, true, true, true, true, true, true, true, false, true, false, false] rfl (tX12_nextOf_b114 T k0 x1 x2 x3 x4 x5 x6 l7 x9 S h0 r h K1 K2_0)
      · rw [if_neg q13] at h
        refine z_aload_n dX12_nextOf_63 rfl ?_
        refine z_iload_n dX12_nextOf_64 rfl ?_
        refine z_iload dX12_nextOf_65 rfl ?_
        refine z_iload_n dX12_nextOf_67 rfl ?_
        refine z_iload_n dX12_nextOf_68 rfl ?_
        refine z_iload dX12_nextOf_69 rfl ?_
        refine z_aload_n dX12_nextOf_71 rfl ?_
        refine z_gI (zF.x zfX12_401) h0.1 dX12_nextOf_72 ?_
        obtain ⟨r14, S16, hc15, h⟩ := zb_elim h
        refine z_callV (As := [.int x1, .int x9, .int x2, .int x3, .int x4, .int (S.1 k0 48)]) zcX12 zkX12_542 ziX12_likesIt zqX12_likesIt h0.1 (tX12_likesIt T k0 x1 x9 x2 x3 x4 (S.1 k0 48) S h0 (r14, S16) hc15) rfl rfl (Nat.le_of_ble_eq_true rfl) (by decide) ⟨Nat.le_refl _, Nat.le_refl _⟩ ⟨Nat.le_refl _, Nat.le_refl _⟩ dX12_nextOf_75 ?_
        refine z_lstore dX12_nextOf_78 rfl (by decide) rfl ?_
        refine z_lload dX12_nextOf_80 rfl ?_
        refine z_lload dX12_nextOf_82 rfl ?_
        refine z_lcmp dX12_nextOf_84 rfl ?_
        refine z_if_le (tgt := 93) dX12_nextOf_85 (by decide) (fun q17 => ?_) (fun q17 => ?_)
        · rw [if_pos q17] at h
          refine z_iload dX12_nextOf_93 rfl ?_
          exact z_mask [true, true, true, true, true, true, false, true, false, true, true, false] rfl (tX12_nextOf_b95 T k0 x1 x2 x3 x4 x5 l7 x9 r14 x6 S16 h0 r h K1 K2_0)
        · rw [if_neg q17] at h
          refine z_iload dX12_nextOf_88 rfl ?_
          refine z_goto (tgt := 95) dX12_nextOf_90 (by decide) ?_
          exact z_mask [true, true, true, true, true, true, false, true, false, true, true, false] rfl (tX12_nextOf_b95 T k0 x1 x2 x3 x4 x5 l7 x9 r14 x9 S16 h0 r h K1 K2_0)
set_option maxHeartbeats 4000000 in
set_option maxRecDepth 100000 in
theorem tX12_nextOf_l29 (T : zT) (k0 : Nat) (x1 : Int32) (x2 : Int32) (x3 : Int32) (x4 : Int32) (x5 : Int32) (h0 : iX12 T k0) {g : zG} {v : Option Value} {S' : zS} : ∀ (n : Nat) (a : (Int32 × Int64 × Int32 × zS)) (e : (Int32 × zS)), lpn (fun a => fX12_nextOf_l29 T k0 x1 x2 x3 x4 x5 a.1 a.2.1 a.2.2.1 a.2.2.2) n a = some e → (∀ e1 : (Int32 × zS), e = e1 → zg g 5 mX12_nextOf T 120 [none, none, none, none, none, none, some (.int e1.1), none, none, none, none, none] [] T e1.2 v T S') → zg g 5 mX12_nextOf T 29 [some (.ref k0), some (.int x1), some (.int x2), some (.int x3), some (.int x4), some (.int x5), some (.int a.1), some (.long a.2.1), none, some (.int a.2.2.1), none, none] [] T a.2.2.2 v T S' := by
  intro n
  induction n with
  | zero =>
    intro a e h
    cases h
  | succ n ih =>
    intro a e h k0_
    rcases lpn_succ h with ⟨a1, ha_, hb_⟩ | ha_
    · exact tX12_nextOf_l29b T k0 x1 x2 x3 x4 x5 a.1 a.2.1 a.2.2.1 a.2.2.2 h0 _ ha_ (fun a2 q => by cases q; exact ih a1 e hb_ k0_) (fun e1 q => by cases q)
    · exact tX12_nextOf_l29b T k0 x1 x2 x3 x4 x5 a.1 a.2.1 a.2.2.1 a.2.2.2 h0 _ ha_ (fun a2 q => by cases q) (fun e1 q => by cases q; exact k0_ _ rfl)
set_option maxHeartbeats 4000000 in
set_option maxRecDepth 100000 in
theorem tX12_nextOf (T : zT) (k0 : Nat) (x1 : Int32) (x2 : Int32) (S : zS) (h0 : iX12 T k0) (r : Int32 × zS) (h : fX12_nextOf T k0 x1 x2 S = some r) : zGM 5 mX12_nextOf [.ref k0, .int x1, .int x2] T S (some (.int r.1)) T r.2 := by
  refine zGM_of zpnX12 rfl (Nat.le_of_ble_eq_true rfl) (fun g => ?_)
  show zg g 5 mX12_nextOf T 0 [some (.ref k0), some (.int x1), some (.int x2), none, none, none, none, none, none, none, none, none] [] T S (some (.int r.1)) T r.2
  unfold fX12_nextOf at h
  refine z_aload_n dX12_nextOf_0 rfl ?_
  refine z_iconst dX12_nextOf_1 cI_1 ?_
  obtain ⟨r1, hc2, h⟩ := zb1_elim h
  refine z_callV (As := [.int 1]) zcX12 zkX12_420 ziX12_placed zqX12_placed h0.1 (tX12_placed T k0 1 S h0 r1 hc2) rfl rfl (Nat.le_of_ble_eq_true rfl) (by decide) ⟨Nat.le_refl _, Nat.le_refl _⟩ ⟨Nat.le_refl _, Nat.le_refl _⟩ dX12_nextOf_2 ?_
  refine z_istore_n dX12_nextOf_5 rfl (by decide) rfl ?_
  refine z_aload_n dX12_nextOf_6 rfl ?_
  refine z_iconst dX12_nextOf_7 cI_0 ?_
  obtain ⟨r3, hc4, h⟩ := zb1_elim h
  refine z_callV (As := [.int 0]) zcX12 zkX12_420 ziX12_placed zqX12_placed h0.1 (tX12_placed T k0 0 S h0 r3 hc4) rfl rfl (Nat.le_of_ble_eq_true rfl) (by decide) ⟨Nat.le_refl _, Nat.le_refl _⟩ ⟨Nat.le_refl _, Nat.le_refl _⟩ dX12_nextOf_8 ?_
  refine z_istore dX12_nextOf_11 rfl (by decide) rfl ?_
  refine z_aload_n dX12_nextOf_13 rfl ?_
  refine z_iload_n dX12_nextOf_14 rfl ?_
  obtain ⟨r5, hc6, h⟩ := zb1_elim h
  refine z_callV (As := [.int x1]) zcX12 zkX12_546 ziX12_keeps zqX12_keeps h0.1 (tX12_keeps T k0 x1 S h0 r5 hc6) rfl rfl (Nat.le_of_ble_eq_true rfl) (by decide) ⟨Nat.le_refl _, Nat.le_refl _⟩ ⟨Nat.le_refl _, Nat.le_refl _⟩ dX12_nextOf_15 ?_
  refine z_istore dX12_nextOf_18 rfl (by decide) rfl ?_
  refine z_iconst dX12_nextOf_20 cI_m1 ?_
  refine z_istore dX12_nextOf_21 rfl (by decide) rfl ?_
  refine z_lconst (r := 0) dX12_nextOf_23 rfl ?_
  refine z_lstore dX12_nextOf_24 rfl (by decide) rfl ?_
  refine z_iconst dX12_nextOf_26 cI_0 ?_
  refine z_istore dX12_nextOf_27 rfl (by decide) rfl ?_
  obtain ⟨e19, hl20, h⟩ := zb1_elim h
  obtain ⟨nf21, hl20⟩ := lp_some hl20
  refine z_mask [true, true, true, true, true, true, true, true, false, true, false, false] rfl (tX12_nextOf_l29 T k0 x1 x2 r1 r3 r5 h0 nf21 ((-1), 0, 0, S) e19 hl20 (fun e_ q => ?_))
  · cases q
    refine z_iload dX12_nextOf_120 rfl ?_
    cases h
    exact z_iret rfl dX12_nextOf_122
/-! X12_term -/
noncomputable def fX12_term_b49 (T : zT) (k0 : Nat) (s0 : Int32) (S : zS) : Option (zS ⊕ zS) :=
  zlet (zI S k0 2 ((S.1 k0 2) + 1)) fun S14 => zb (fX12_value T k0 S14) fun _ S17 => zb (fX12_entry T k0 s0 0 S17) fun _ S20 => zb (fX12_blanks T k0 S20) fun _ S23 => some (.inl S23)
noncomputable def fX12_term_b33 (T : zT) (k0 : Nat) (S : zS) : Option (zS ⊕ zS) :=
  zb1 (fX12_sign T k0 S) fun r11 => if r11 = 42 then fX12_term_b49 T k0 13 S else fX12_term_b49 T k0 14 S
noncomputable def fX12_term_l8 (T : zT) (k0 : Nat)  (S : zS) : Option (zS ⊕ zS) :=
  if (S.1 k0 3) = 0 then zb1 (fX12_sign T k0 S) fun r8 => if r8 = 42 then fX12_term_b33 T k0 S else zb1 (fX12_sign T k0 S) fun r24 => if r24 = 47 then fX12_term_b33 T k0 S else some (.inr S) else some (.inr S)
noncomputable def fX12_term_b77 (T : zT)  (S : zS) : Option (Unit × zS) :=
  some ((), S)
noncomputable def fX12_term (T : zT) (k0 : Nat) (S : zS) : Option (Unit × zS) :=
  zb (fX12_value T k0 S) fun _ S3 => zb (fX12_blanks T k0 S3) fun _ S6 => zb1 (lp (fun a => fX12_term_l8 T k0 a) S6) fun e27 => fX12_term_b77 T  e27
set_option maxHeartbeats 4000000 in
set_option maxRecDepth 100000 in
theorem tX12_term_b49 (T : zT) (k0 : Nat) (s0 : Int32) (S : zS) (h0 : iX12 T k0) {g : zG} {v : Option Value} {S' : zS} (r : (zS ⊕ zS)) (h : fX12_term_b49 T k0 s0 S = some r) (K1 : ∀ a : zS, r = .inl a → zg g 6 mX12_term T 8 [some (.ref k0), none] [] T a v T S') (K2_0 : ∀ e : zS, r = .inr e → zg g 6 mX12_term T 77 [none, none] [] T e v T S') : zg g 6 mX12_term T 49 [some (.ref k0), none] [.int s0] T S v T S' := by
  unfold fX12_term_b49 at h
  refine z_istore_n dX12_term_49 rfl (by decide) rfl ?_
  refine z_aload_n dX12_term_50 rfl ?_
  refine z_dup dX12_term_51 rfl ?_
  refine z_gI (zF.x zfX12_190) h0.1 dX12_term_52 ?_
  refine z_iconst dX12_term_55 cI_1 ?_
  refine z_iadd dX12_term_56 rfl ?_
  refine z_putI zfX12_190 h0.1 dX12_term_57 ?_
  obtain ⟨S14, eS14, h⟩ := zlet_elim h
  refine z_tS eS14 ?_
  refine z_aload_n dX12_term_60 rfl ?_
  obtain ⟨r15, S17, hc16, h⟩ := zb_elim h
  refine z_callV (As := []) zcX12 zkX12_251 ziX12_value zqX12_value h0.1 (tX12_value T k0 S14 h0 (r15, S17) hc16) rfl rfl (Nat.le_of_ble_eq_true rfl) (by decide) ⟨Nat.le_refl _, Nat.le_refl _⟩ ⟨Nat.le_refl _, Nat.le_refl _⟩ dX12_term_61 ?_
  refine z_aload_n dX12_term_64 rfl ?_
  refine z_iload_n dX12_term_65 rfl ?_
  refine z_iconst dX12_term_66 cI_0 ?_
  obtain ⟨r18, S20, hc19, h⟩ := zb_elim h
  refine z_callV (As := [.int s0, .int 0]) zcX12 zkX12_242 ziX12_entry zqX12_entry h0.1 (tX12_entry T k0 s0 0 S17 h0 (r18, S20) hc19) rfl rfl (Nat.le_of_ble_eq_true rfl) (by decide) ⟨Nat.le_refl _, Nat.le_refl _⟩ ⟨Nat.le_refl _, Nat.le_refl _⟩ dX12_term_67 ?_
  refine z_aload_n dX12_term_70 rfl ?_
  obtain ⟨r21, S23, hc22, h⟩ := zb_elim h
  refine z_callV (As := []) zcX12 zkX12_213 ziX12_blanks zqX12_blanks h0.1 (tX12_blanks T k0 S20 h0 (r21, S23) hc22) rfl rfl (Nat.le_of_ble_eq_true rfl) (by decide) ⟨Nat.le_refl _, Nat.le_refl _⟩ ⟨Nat.le_refl _, Nat.le_refl _⟩ dX12_term_71 ?_
  refine z_goto (tgt := 8) dX12_term_74 (by decide) ?_
  cases h
  exact z_mask [true, false] rfl (K1 _ rfl)
set_option maxHeartbeats 4000000 in
set_option maxRecDepth 100000 in
theorem tX12_term_b33 (T : zT) (k0 : Nat) (S : zS) (h0 : iX12 T k0) {g : zG} {v : Option Value} {S' : zS} (r : (zS ⊕ zS)) (h : fX12_term_b33 T k0 S = some r) (K1 : ∀ a : zS, r = .inl a → zg g 6 mX12_term T 8 [some (.ref k0), none] [] T a v T S') (K2_0 : ∀ e : zS, r = .inr e → zg g 6 mX12_term T 77 [none, none] [] T e v T S') : zg g 6 mX12_term T 33 [some (.ref k0), none] [] T S v T S' := by
  unfold fX12_term_b33 at h
  refine z_aload_n dX12_term_33 rfl ?_
  obtain ⟨r11, hc12, h⟩ := zb1_elim h
  refine z_callV (As := []) zcX12 zkX12_193 ziX12_sign zqX12_sign h0.1 (tX12_sign T k0 S h0 r11 hc12) rfl rfl (Nat.le_of_ble_eq_true rfl) (by decide) ⟨Nat.le_refl _, Nat.le_refl _⟩ ⟨Nat.le_refl _, Nat.le_refl _⟩ dX12_term_34 ?_
  refine z_bipush dX12_term_37 cB_42 ?_
  refine z_icmp_ne (tgt := 47) dX12_term_39 (by decide) (fun q13 => ?_) (fun q13 => ?_)
  · rw [if_neg q13] at h
    refine z_bipush dX12_term_47 cB_14 ?_
    exact z_mask [true, false] rfl (tX12_term_b49 T k0 14 S h0 r h K1 K2_0)
  · rw [if_pos q13] at h
    refine z_bipush dX12_term_42 cB_13 ?_
    refine z_goto (tgt := 49) dX12_term_44 (by decide) ?_
    exact z_mask [true, false] rfl (tX12_term_b49 T k0 13 S h0 r h K1 K2_0)
set_option maxHeartbeats 4000000 in
set_option maxRecDepth 100000 in
theorem tX12_term_l8b (T : zT) (k0 : Nat)  (S : zS) (h0 : iX12 T k0) {g : zG} {v : Option Value} {S' : zS} (r : zS ⊕ zS) (h : fX12_term_l8 T k0  S = some r) (K1 : ∀ a : zS, r = .inl a → zg g 6 mX12_term T 8 [some (.ref k0), none] [] T a v T S') (K2_0 : ∀ e : zS, r = .inr e → zg g 6 mX12_term T 77 [none, none] [] T e v T S') : zg g 6 mX12_term T 8 [some (.ref k0), none] [] T S v T S' := by
  unfold fX12_term_l8 at h
  refine z_aload_n dX12_term_8 rfl ?_
  refine z_gI (zF.x zfX12_187) h0.1 dX12_term_9 ?_
  refine z_if_ne (tgt := 77) dX12_term_12 (by decide) (fun q7 => ?_) (fun q7 => ?_)
  · rw [if_neg q7] at h
    cases h
    exact z_mask [false, false] rfl (K2_0 _ rfl)
  · rw [if_pos q7] at h
    refine z_aload_n dX12_term_15 rfl ?_
    obtain ⟨r8, hc9, h⟩ := zb1_elim h
    refine z_callV (As := []) zcX12 zkX12_193 ziX12_sign zqX12_sign h0.1 (tX12_sign T k0 S h0 r8 hc9) rfl rfl (Nat.le_of_ble_eq_true rfl) (by decide) ⟨Nat.le_refl _, Nat.le_refl _⟩ ⟨Nat.le_refl _, Nat.le_refl _⟩ dX12_term_16 ?_
    refine z_bipush dX12_term_19 cB_42 ?_
    refine z_icmp_eq (tgt := 33) dX12_term_21 (by decide) (fun q10 => ?_) (fun q10 => ?_)
    · rw [if_pos q10] at h
      exact z_mask [true, false] rfl (tX12_term_b33 T k0 S h0 r h K1 K2_0)
    · rw [if_neg q10] at h
      refine z_aload_n dX12_term_24 rfl ?_
      obtain ⟨r24, hc25, h⟩ := zb1_elim h
      refine z_callV (As := []) zcX12 zkX12_193 ziX12_sign zqX12_sign h0.1 (tX12_sign T k0 S h0 r24 hc25) rfl rfl (Nat.le_of_ble_eq_true rfl) (by decide) ⟨Nat.le_refl _, Nat.le_refl _⟩ ⟨Nat.le_refl _, Nat.le_refl _⟩ dX12_term_25 ?_
      refine z_bipush dX12_term_28 cB_47 ?_
      refine z_icmp_ne (tgt := 77) dX12_term_30 (by decide) (fun q26 => ?_) (fun q26 => ?_)
      · rw [if_neg q26] at h
        cases h
        exact z_mask [false, false] rfl (K2_0 _ rfl)
      · rw [if_pos q26] at h
        exact z_mask [true, false] rfl (tX12_term_b33 T k0 S h0 r h K1 K2_0)
set_option maxHeartbeats 4000000 in
set_option maxRecDepth 100000 in
theorem tX12_term_l8 (T : zT) (k0 : Nat) (h0 : iX12 T k0) {g : zG} {v : Option Value} {S' : zS} : ∀ (n : Nat) (a : zS) (e : zS), lpn (fun a => fX12_term_l8 T k0 a) n a = some e → (∀ e1 : zS, e = e1 → zg g 6 mX12_term T 77 [none, none] [] T e1 v T S') → zg g 6 mX12_term T 8 [some (.ref k0), none] [] T a v T S' := by
  intro n
  induction n with
  | zero =>
    intro a e h
    cases h
  | succ n ih =>
    intro a e h k0_
    rcases lpn_succ h with ⟨a1, ha_, hb_⟩ | ha_
    · exact tX12_term_l8b T k0 a h0 _ ha_ (fun a2 q => by cases q; exact ih a1 e hb_ k0_) (fun e1 q => by cases q)
    · exact tX12_term_l8b T k0 a h0 _ ha_ (fun a2 q => by cases q) (fun e1 q => by cases q; exact k0_ _ rfl)
set_option maxHeartbeats 4000000 in
set_option maxRecDepth 100000 in
theorem tX12_term_b77 (T : zT)  (S : zS)  {g : zG} (r : (Unit × zS)) (h : fX12_term_b77 T  S = some r)  : zg g 6 mX12_term T 77 [none, none] [] T S none T r.2 := by
  unfold fX12_term_b77 at h
  cases h
  exact z_vret rfl dX12_term_77
set_option maxHeartbeats 4000000 in
set_option maxRecDepth 100000 in
theorem tX12_term (T : zT) (k0 : Nat) (S : zS) (h0 : iX12 T k0) (r : Unit × zS) (h : fX12_term T k0 S = some r) : zGM 6 mX12_term [.ref k0] T S none T r.2 := by
  refine zGM_of zpnX12 rfl (Nat.le_of_ble_eq_true rfl) (fun g => ?_)
  show zg g 6 mX12_term T 0 [some (.ref k0), none] [] T S none T r.2
  unfold fX12_term at h
  refine z_aload_n dX12_term_0 rfl ?_
  obtain ⟨r1, S3, hc2, h⟩ := zb_elim h
  refine z_callV (As := []) zcX12 zkX12_251 ziX12_value zqX12_value h0.1 (tX12_value T k0 S h0 (r1, S3) hc2) rfl rfl (Nat.le_of_ble_eq_true rfl) (by decide) ⟨Nat.le_refl _, Nat.le_refl _⟩ ⟨Nat.le_refl _, Nat.le_refl _⟩ dX12_term_1 ?_
  refine z_aload_n dX12_term_4 rfl ?_
  obtain ⟨r4, S6, hc5, h⟩ := zb_elim h
  refine z_callV (As := []) zcX12 zkX12_213 ziX12_blanks zqX12_blanks h0.1 (tX12_blanks T k0 S3 h0 (r4, S6) hc5) rfl rfl (Nat.le_of_ble_eq_true rfl) (by decide) ⟨Nat.le_refl _, Nat.le_refl _⟩ ⟨Nat.le_refl _, Nat.le_refl _⟩ dX12_term_5 ?_
  obtain ⟨e27, hl28, h⟩ := zb1_elim h
  obtain ⟨nf29, hl28⟩ := lp_some hl28
  refine z_mask [true, false] rfl (tX12_term_l8 T k0 h0 nf29 S6 e27 hl28 (fun e_ q => ?_))
  · cases q
    exact z_mask [false, false] rfl (tX12_term_b77 T  e27  r h)
/-! X12_onceClause -/
noncomputable def fX12_onceClause_b119 (T : zT)  (S : zS) : Option (Unit × zS) :=
  some ((), S)
noncomputable def fX12_onceClause_b106 (T : zT) (k0 : Nat) (S : zS) : Option (Unit × zS) :=
  zb (fX12_amount T k0 1 60 S) fun r10 S12 => zgd (zin 1 2) (zlet (zI S12 (zr T k0 31) (1 : Int32).toNatClampNeg r10) fun S14 => fX12_onceClause_b119 T  S14)
noncomputable def fX12_onceClause (T : zT) (k0 : Nat) (x1 : Int32) (S : zS) : Option (Unit × zS) :=
  if x1 = 3 then zb (fX12_amount T k0 0 1000 S) fun r32 S34 => zgd (zin 1 2) (zlet (zI S34 (zr T k0 29) (1 : Int32).toNatClampNeg r32) fun S36 => fX12_onceClause_b119 T  S36) else if x1 = 5 then zb (fX12_amount T k0 0 9999 S) fun r27 S29 => zgd (zin 1 2) (zlet (zI S29 (zr T k0 32) (1 : Int32).toNatClampNeg r27) fun S31 => fX12_onceClause_b119 T  S31) else if x1 = 6 then zb (fX12_amount T k0 1 60 S) fun r22 S24 => zgd (zin 1 2) (zlet (zI S24 (zr T k0 33) (1 : Int32).toNatClampNeg r22) fun S26 => fX12_onceClause_b119 T  S26) else zb (fX12_amount T k0 0 9999 S) fun r4 S6 => zgd (zin 1 2) (zlet (zI S6 (zr T k0 30) (1 : Int32).toNatClampNeg r4) fun S8 => if (S8.1 k0 3) = 0 then zb (fX12_takes T k0 26 S8) fun r15 S17 => if r15 = 0 then zb (fX12_fails T k0 0 (S17.1 k0 2) S17) fun _ S21 => fX12_onceClause_b106 T k0 S21 else fX12_onceClause_b106 T k0 S17 else fX12_onceClause_b106 T k0 S8)
set_option maxHeartbeats 4000000 in
set_option maxRecDepth 100000 in
theorem tX12_onceClause_b119 (T : zT)  (S : zS)  {g : zG} (r : (Unit × zS)) (h : fX12_onceClause_b119 T  S = some r)  : zg g 6 mX12_onceClause T 119 [none, none] [] T S none T r.2 := by
  unfold fX12_onceClause_b119 at h
  cases h
  exact z_vret rfl dX12_onceClause_119
set_option maxHeartbeats 4000000 in
set_option maxRecDepth 100000 in
theorem tX12_onceClause_b106 (T : zT) (k0 : Nat) (S : zS) (h0 : iX12 T k0) {g : zG} (r : (Unit × zS)) (h : fX12_onceClause_b106 T k0 S = some r)  : zg g 6 mX12_onceClause T 106 [some (.ref k0), none] [] T S none T r.2 := by
  unfold fX12_onceClause_b106 at h
  refine z_aload_n dX12_onceClause_106 rfl ?_
  refine z_gA (zF.x zfX12_71) h0.1 dX12_onceClause_107 ?_
  refine z_iconst dX12_onceClause_110 cI_1 ?_
  refine z_aload_n dX12_onceClause_111 rfl ?_
  refine z_iconst dX12_onceClause_112 cI_1 ?_
  refine z_bipush dX12_onceClause_113 cB_60 ?_
  obtain ⟨r10, S12, hc11, h⟩ := zb_elim h
  refine z_callV (As := [.int 1, .int 60]) zcX12 zkX12_302 ziX12_amount zqX12_amount h0.1 (tX12_amount T k0 1 60 S h0 (r10, S12) hc11) rfl rfl (Nat.le_of_ble_eq_true rfl) (by decide) ⟨Nat.le_refl _, Nat.le_refl _⟩ ⟨Nat.le_refl _, Nat.le_refl _⟩ dX12_onceClause_115 ?_
  obtain ⟨q13, h⟩ := zgd_elim h
  refine z_iast h0.2.2.2.2.2.2.2.2.2.2.2.2.2.2.2.2.2.2.2.2.2.1 (zin_ok q13) dX12_onceClause_118 ?_
  obtain ⟨S14, eS14, h⟩ := zlet_elim h
  refine z_tS eS14 ?_
  exact z_mask [false, false] rfl (tX12_onceClause_b119 T  S14  r h)
set_option maxHeartbeats 4000000 in
set_option maxRecDepth 100000 in
theorem tX12_onceClause (T : zT) (k0 : Nat) (x1 : Int32) (S : zS) (h0 : iX12 T k0) (r : Unit × zS) (h : fX12_onceClause T k0 x1 S = some r) : zGM 6 mX12_onceClause [.ref k0, .int x1] T S none T r.2 := by
  refine zGM_of zpnX12 rfl (Nat.le_of_ble_eq_true rfl) (fun g => ?_)
  show zg g 6 mX12_onceClause T 0 [some (.ref k0), some (.int x1)] [] T S none T r.2
  unfold fX12_onceClause at h
  refine z_iload_n dX12_onceClause_0 rfl ?_
  refine z_iconst dX12_onceClause_1 cI_3 ?_
  refine z_icmp_ne (tgt := 22) dX12_onceClause_2 (by decide) (fun q1 => ?_) (fun q1 => ?_)
  · rw [if_neg q1] at h
    refine z_iload_n dX12_onceClause_22 rfl ?_
    refine z_iconst dX12_onceClause_23 cI_5 ?_
    refine z_icmp_ne (tgt := 44) dX12_onceClause_24 (by decide) (fun q2 => ?_) (fun q2 => ?_)
    · rw [if_neg q2] at h
      refine z_iload_n dX12_onceClause_44 rfl ?_
      refine z_bipush dX12_onceClause_45 cB_6 ?_
      refine z_icmp_ne (tgt := 66) dX12_onceClause_47 (by decide) (fun q3 => ?_) (fun q3 => ?_)
      · rw [if_neg q3] at h
        refine z_aload_n dX12_onceClause_66 rfl ?_
        refine z_gA (zF.x zfX12_68) h0.1 dX12_onceClause_67 ?_
        refine z_iconst dX12_onceClause_70 cI_1 ?_
        refine z_aload_n dX12_onceClause_71 rfl ?_
        refine z_iconst dX12_onceClause_72 cI_0 ?_
        refine z_sipush dX12_onceClause_73 cS_9999 ?_
        obtain ⟨r4, S6, hc5, h⟩ := zb_elim h
        refine z_callV (As := [.int 0, .int 9999]) zcX12 zkX12_302 ziX12_amount zqX12_amount h0.1 (tX12_amount T k0 0 9999 S h0 (r4, S6) hc5) rfl rfl (Nat.le_of_ble_eq_true rfl) (by decide) ⟨Nat.le_refl _, Nat.le_refl _⟩ ⟨Nat.le_refl _, Nat.le_refl _⟩ dX12_onceClause_76 ?_
        obtain ⟨q7, h⟩ := zgd_elim h
        refine z_iast h0.2.2.2.2.2.2.2.2.2.2.2.2.2.2.2.2.2.2.2.2.1 (zin_ok q7) dX12_onceClause_79 ?_
        obtain ⟨S8, eS8, h⟩ := zlet_elim h
        refine z_tS eS8 ?_
        refine z_aload_n dX12_onceClause_80 rfl ?_
        refine z_gI (zF.x zfX12_187) h0.1 dX12_onceClause_81 ?_
        refine z_if_ne (tgt := 106) dX12_onceClause_84 (by decide) (fun q9 => ?_) (fun q9 => ?_)
        · rw [if_neg q9] at h
          exact z_mask [true, false] rfl (tX12_onceClause_b106 T k0 S8 h0 r h)
        · rw [if_pos q9] at h
          refine z_aload_n dX12_onceClause_87 rfl ?_
          refine z_ldcSW (i := 26) rfl dX12_onceClause_88 ?_
          obtain ⟨r15, S17, hc16, h⟩ := zb_elim h
          refine z_callV (As := [.ref (10002 + 26)]) zcX12 zkX12_293 ziX12_takes zqX12_takes h0.1 (tX12_takes T k0 26 S8 h0 (by decide) (r15, S17) hc16) rfl rfl (Nat.le_of_ble_eq_true rfl) (by decide) ⟨Nat.le_refl _, Nat.le_refl _⟩ ⟨Nat.le_refl _, Nat.le_refl _⟩ dX12_onceClause_91 ?_
          refine z_if_ne (tgt := 106) dX12_onceClause_94 (by decide) (fun q18 => ?_) (fun q18 => ?_)
          · rw [if_neg q18] at h
            exact z_mask [true, false] rfl (tX12_onceClause_b106 T k0 S17 h0 r h)
          · rw [if_pos q18] at h
            refine z_aload_n dX12_onceClause_97 rfl ?_
            refine z_iconst dX12_onceClause_98 cI_0 ?_
            refine z_aload_n dX12_onceClause_99 rfl ?_
            refine z_gI (zF.x zfX12_190) h0.1 dX12_onceClause_100 ?_
            obtain ⟨r19, S21, hc20, h⟩ := zb_elim h
            refine z_callV (As := [.int 0, .int (S17.1 k0 2)]) zcX12 zkX12_226 ziX12_fails zqX12_fails h0.1 (tX12_fails T k0 0 (S17.1 k0 2) S17 h0 (r19, S21) hc20) rfl rfl (Nat.le_of_ble_eq_true rfl) (by decide) ⟨Nat.le_refl _, Nat.le_refl _⟩ ⟨Nat.le_refl _, Nat.le_refl _⟩ dX12_onceClause_103 ?_
            exact z_mask [true, false] rfl (tX12_onceClause_b106 T k0 S21 h0 r h)
      · rw [if_pos q3] at h
        refine z_aload_n dX12_onceClause_50 rfl ?_
        refine z_gA (zF.x zfX12_77) h0.1 dX12_onceClause_51 ?_
        refine z_iconst dX12_onceClause_54 cI_1 ?_
        refine z_aload_n dX12_onceClause_55 rfl ?_
        refine z_iconst dX12_onceClause_56 cI_1 ?_
        refine z_bipush dX12_onceClause_57 cB_60 ?_
        obtain ⟨r22, S24, hc23, h⟩ := zb_elim h
        refine z_callV (As := [.int 1, .int 60]) zcX12 zkX12_302 ziX12_amount zqX12_amount h0.1 (tX12_amount T k0 1 60 S h0 (r22, S24) hc23) rfl rfl (Nat.le_of_ble_eq_true rfl) (by decide) ⟨Nat.le_refl _, Nat.le_refl _⟩ ⟨Nat.le_refl _, Nat.le_refl _⟩ dX12_onceClause_59 ?_
        obtain ⟨q25, h⟩ := zgd_elim h
        refine z_iast h0.2.2.2.2.2.2.2.2.2.2.2.2.2.2.2.2.2.2.2.2.2.2.2.1 (zin_ok q25) dX12_onceClause_62 ?_
        obtain ⟨S26, eS26, h⟩ := zlet_elim h
        refine z_tS eS26 ?_
        refine z_goto (tgt := 119) dX12_onceClause_63 (by decide) ?_
        exact z_mask [false, false] rfl (tX12_onceClause_b119 T  S26  r h)
    · rw [if_pos q2] at h
      refine z_aload_n dX12_onceClause_27 rfl ?_
      refine z_gA (zF.x zfX12_74) h0.1 dX12_onceClause_28 ?_
      refine z_iconst dX12_onceClause_31 cI_1 ?_
      refine z_aload_n dX12_onceClause_32 rfl ?_
      refine z_iconst dX12_onceClause_33 cI_0 ?_
      refine z_sipush dX12_onceClause_34 cS_9999 ?_
      obtain ⟨r27, S29, hc28, h⟩ := zb_elim h
      refine z_callV (As := [.int 0, .int 9999]) zcX12 zkX12_302 ziX12_amount zqX12_amount h0.1 (tX12_amount T k0 0 9999 S h0 (r27, S29) hc28) rfl rfl (Nat.le_of_ble_eq_true rfl) (by decide) ⟨Nat.le_refl _, Nat.le_refl _⟩ ⟨Nat.le_refl _, Nat.le_refl _⟩ dX12_onceClause_37 ?_
      obtain ⟨q30, h⟩ := zgd_elim h
      refine z_iast h0.2.2.2.2.2.2.2.2.2.2.2.2.2.2.2.2.2.2.2.2.2.2.1 (zin_ok q30) dX12_onceClause_40 ?_
      obtain ⟨S31, eS31, h⟩ := zlet_elim h
      refine z_tS eS31 ?_
      refine z_goto (tgt := 119) dX12_onceClause_41 (by decide) ?_
      exact z_mask [false, false] rfl (tX12_onceClause_b119 T  S31  r h)
  · rw [if_pos q1] at h
    refine z_aload_n dX12_onceClause_5 rfl ?_
    refine z_gA (zF.x zfX12_65) h0.1 dX12_onceClause_6 ?_
    refine z_iconst dX12_onceClause_9 cI_1 ?_
    refine z_aload_n dX12_onceClause_10 rfl ?_
    refine z_iconst dX12_onceClause_11 cI_0 ?_
    refine z_sipush dX12_onceClause_12 cS_1000 ?_
    obtain ⟨r32, S34, hc33, h⟩ := zb_elim h
    refine z_callV (As := [.int 0, .int 1000]) zcX12 zkX12_302 ziX12_amount zqX12_amount h0.1 (tX12_amount T k0 0 1000 S h0 (r32, S34) hc33) rfl rfl (Nat.le_of_ble_eq_true rfl) (by decide) ⟨Nat.le_refl _, Nat.le_refl _⟩ ⟨Nat.le_refl _, Nat.le_refl _⟩ dX12_onceClause_15 ?_
    obtain ⟨q35, h⟩ := zgd_elim h
    refine z_iast h0.2.2.2.2.2.2.2.2.2.2.2.2.2.2.2.2.2.2.2.1 (zin_ok q35) dX12_onceClause_18 ?_
    obtain ⟨S36, eS36, h⟩ := zlet_elim h
    refine z_tS eS36 ?_
    refine z_goto (tgt := 119) dX12_onceClause_19 (by decide) ?_
    exact z_mask [false, false] rfl (tX12_onceClause_b119 T  S36  r h)
/-! X12_judged -/
noncomputable def fX12_judged (T : zT) (k0 : Nat) (x1 : Int32) (S : zS) : Option (Int32 × zS) :=
  zb (fX12_goesBy T k0 0 0 S) fun _ S3 => if x1 = 0 then some ((S3.1 k0 49), S3) else if x1 = 1 then some ((S3.1 k0 50), S3) else if x1 = 2 then some ((S3.1 k0 48), S3) else if x1 = 3 then zb1 (fX12_placed T k0 1 S3) fun r8 => some (r8, S3) else if x1 = 4 then zb1 (fX12_placed T k0 2 S3) fun r11 => some (r11, S3) else some ((-2), S3)
set_option maxHeartbeats 4000000 in
set_option maxRecDepth 100000 in
theorem tX12_judged (T : zT) (k0 : Nat) (x1 : Int32) (S : zS) (h0 : iX12 T k0) (r : Int32 × zS) (h : fX12_judged T k0 x1 S = some r) : zGM 6 mX12_judged [.ref k0, .int x1] T S (some (.int r.1)) T r.2 := by
  refine zGM_of zpnX12 rfl (Nat.le_of_ble_eq_true rfl) (fun g => ?_)
  show zg g 6 mX12_judged T 0 [some (.ref k0), some (.int x1)] [] T S (some (.int r.1)) T r.2
  unfold fX12_judged at h
  refine z_aload_n dX12_judged_0 rfl ?_
  refine z_iconst dX12_judged_1 cI_0 ?_
  refine z_iconst dX12_judged_2 cI_0 ?_
  obtain ⟨r1, S3, hc2, h⟩ := zb_elim h
  refine z_callV (As := [.int 0, .int 0]) zcX12 zkX12_454 ziX12_goesBy zqX12_goesBy h0.1 (tX12_goesBy T k0 0 0 S h0 (r1, S3) hc2) rfl rfl (Nat.le_of_ble_eq_true rfl) (by decide) ⟨Nat.le_refl _, Nat.le_refl _⟩ ⟨Nat.le_refl _, Nat.le_refl _⟩ dX12_judged_3 ?_
  refine z_iload_n dX12_judged_6 rfl ?_
  by_cases q4 : x1 = 0
  · rw [if_pos q4] at h
    refine z_tableIn (off := 33) (tgt := 40) dX12_judged_7 (by show ¬ x1.toInt < 0; rw [q4]; decide) (by show ¬ 4 < x1.toInt; rw [q4]; decide) (by rw [q4]; rfl) (by decide) ?_
    refine z_aload_n dX12_judged_40 rfl ?_
    refine z_gI (zF.x zfX12_408) h0.1 dX12_judged_41 ?_
    cases h
    exact z_iret rfl dX12_judged_44
  rw [if_neg q4] at h
  by_cases q5 : x1 = 1
  · rw [if_pos q5] at h
    refine z_tableIn (off := 38) (tgt := 45) dX12_judged_7 (by show ¬ x1.toInt < 0; rw [q5]; decide) (by show ¬ 4 < x1.toInt; rw [q5]; decide) (by rw [q5]; rfl) (by decide) ?_
    refine z_aload_n dX12_judged_45 rfl ?_
    refine z_gI (zF.x zfX12_411) h0.1 dX12_judged_46 ?_
    cases h
    exact z_iret rfl dX12_judged_49
  rw [if_neg q5] at h
  by_cases q6 : x1 = 2
  · rw [if_pos q6] at h
    refine z_tableIn (off := 43) (tgt := 50) dX12_judged_7 (by show ¬ x1.toInt < 0; rw [q6]; decide) (by show ¬ 4 < x1.toInt; rw [q6]; decide) (by rw [q6]; rfl) (by decide) ?_
    refine z_aload_n dX12_judged_50 rfl ?_
    refine z_gI (zF.x zfX12_401) h0.1 dX12_judged_51 ?_
    cases h
    exact z_iret rfl dX12_judged_54
  rw [if_neg q6] at h
  by_cases q7 : x1 = 3
  · rw [if_pos q7] at h
    refine z_tableIn (off := 48) (tgt := 55) dX12_judged_7 (by show ¬ x1.toInt < 0; rw [q7]; decide) (by show ¬ 4 < x1.toInt; rw [q7]; decide) (by rw [q7]; rfl) (by decide) ?_
    refine z_aload_n dX12_judged_55 rfl ?_
    refine z_iconst dX12_judged_56 cI_1 ?_
    obtain ⟨r8, hc9, h⟩ := zb1_elim h
    refine z_callV (As := [.int 1]) zcX12 zkX12_420 ziX12_placed zqX12_placed h0.1 (tX12_placed T k0 1 S3 h0 r8 hc9) rfl rfl (Nat.le_of_ble_eq_true rfl) (by decide) ⟨Nat.le_refl _, Nat.le_refl _⟩ ⟨Nat.le_refl _, Nat.le_refl _⟩ dX12_judged_57 ?_
    cases h
    exact z_iret rfl dX12_judged_60
  rw [if_neg q7] at h
  by_cases q10 : x1 = 4
  · rw [if_pos q10] at h
    refine z_tableIn (off := 54) (tgt := 61) dX12_judged_7 (by show ¬ x1.toInt < 0; rw [q10]; decide) (by show ¬ 4 < x1.toInt; rw [q10]; decide) (by rw [q10]; rfl) (by decide) ?_
    refine z_aload_n dX12_judged_61 rfl ?_
    refine z_iconst dX12_judged_62 cI_2 ?_
    obtain ⟨r11, hc12, h⟩ := zb1_elim h
    refine z_callV (As := [.int 2]) zcX12 zkX12_420 ziX12_placed zqX12_placed h0.1 (tX12_placed T k0 2 S3 h0 r11 hc12) rfl rfl (Nat.le_of_ble_eq_true rfl) (by decide) ⟨Nat.le_refl _, Nat.le_refl _⟩ ⟨Nat.le_refl _, Nat.le_refl _⟩ dX12_judged_63 ?_
    cases h
    exact z_iret rfl dX12_judged_66
  rw [if_neg q10] at h
  have q4i : ¬ x1.toInt = 0 := zneI q4 (by decide)
  have q5i : ¬ x1.toInt = 1 := zneI q5 (by decide)
  have q6i : ¬ x1.toInt = 2 := zneI q6 (by decide)
  have q7i : ¬ x1.toInt = 3 := zneI q7 (by decide)
  have q10i : ¬ x1.toInt = 4 := zneI q10 (by decide)
  refine z_tableOut (tgt := 67) dX12_judged_7 (by show x1.toInt < 0 ∨ 4 < x1.toInt; omega) (by decide) ?_
  refine z_bipush dX12_judged_67 cB_m2 ?_
  cases h
  exact z_iret rfl dX12_judged_69
/-! X12_then -/
noncomputable def fX12_then_b56 (T : zT) (s0 : Int32) (S : zS) : Option (Int32 × zS) :=
  some (s0, S)
noncomputable def fX12_then_b32 (T : zT)  (S : zS) : Option (Int32 × zS) :=
  fX12_then_b56 T (-2) S
noncomputable def fX12_then (T : zT) (k0 : Nat) (x1 : Int32) (x2 : Int32) (S : zS) : Option (Int32 × zS) :=
  zb (fX12_goesBy T k0 0 0 S) fun _ S3 => zb1 (fX12_in T ((x1 : Int32).toInt64) 0 ((((S3.1 k0 51) - 1) : Int32).toInt64) S3) fun r4 => if r4 = 0 then fX12_then_b32 T  S3 else zb1 (fX12_in T ((x2 : Int32).toInt64) 0 1 S3) fun r7 => if r7 = 0 then fX12_then_b32 T  S3 else if x2 = 0 then zgd (zin x1 60) (fX12_then_b56 T (S3.1 (zr T k0 44) (x1 : Int32).toNatClampNeg) S3) else zgd (zin x1 60) (fX12_then_b56 T (S3.1 (zr T k0 45) (x1 : Int32).toNatClampNeg) S3)
set_option maxHeartbeats 4000000 in
set_option maxRecDepth 100000 in
theorem tX12_then_b56 (T : zT) (s0 : Int32) (S : zS)  {g : zG} (r : (Int32 × zS)) (h : fX12_then_b56 T s0 S = some r)  : zg g 6 mX12_then T 56 [none, none, none] [.int s0] T S (some (.int r.1)) T r.2 := by
  unfold fX12_then_b56 at h
  cases h
  exact z_iret rfl dX12_then_56
set_option maxHeartbeats 4000000 in
set_option maxRecDepth 100000 in
theorem tX12_then_b32 (T : zT)  (S : zS)  {g : zG} (r : (Int32 × zS)) (h : fX12_then_b32 T  S = some r)  : zg g 6 mX12_then T 32 [none, none, none] [] T S (some (.int r.1)) T r.2 := by
  unfold fX12_then_b32 at h
  refine z_bipush dX12_then_32 cB_m2 ?_
  refine z_goto (tgt := 56) dX12_then_34 (by decide) ?_
  exact z_mask [false, false, false] rfl (tX12_then_b56 T (-2) S  r h)
set_option maxHeartbeats 4000000 in
set_option maxRecDepth 100000 in
theorem tX12_then (T : zT) (k0 : Nat) (x1 : Int32) (x2 : Int32) (S : zS) (h0 : iX12 T k0) (r : Int32 × zS) (h : fX12_then T k0 x1 x2 S = some r) : zGM 6 mX12_then [.ref k0, .int x1, .int x2] T S (some (.int r.1)) T r.2 := by
  refine zGM_of zpnX12 rfl (Nat.le_of_ble_eq_true rfl) (fun g => ?_)
  show zg g 6 mX12_then T 0 [some (.ref k0), some (.int x1), some (.int x2)] [] T S (some (.int r.1)) T r.2
  unfold fX12_then at h
  refine z_aload_n dX12_then_0 rfl ?_
  refine z_iconst dX12_then_1 cI_0 ?_
  refine z_iconst dX12_then_2 cI_0 ?_
  obtain ⟨r1, S3, hc2, h⟩ := zb_elim h
  refine z_callV (As := [.int 0, .int 0]) zcX12 zkX12_454 ziX12_goesBy zqX12_goesBy h0.1 (tX12_goesBy T k0 0 0 S h0 (r1, S3) hc2) rfl rfl (Nat.le_of_ble_eq_true rfl) (by decide) ⟨Nat.le_refl _, Nat.le_refl _⟩ ⟨Nat.le_refl _, Nat.le_refl _⟩ dX12_then_3 ?_
  refine z_iload_n dX12_then_6 rfl ?_
  refine z_i2l dX12_then_7 rfl ?_
  refine z_lconst (r := 0) dX12_then_8 rfl ?_
  refine z_aload_n dX12_then_9 rfl ?_
  refine z_gI (zF.x zfX12_414) h0.1 dX12_then_10 ?_
  refine z_iconst dX12_then_13 cI_1 ?_
  refine z_isub dX12_then_14 rfl ?_
  refine z_i2l dX12_then_15 rfl ?_
  obtain ⟨r4, hc5, h⟩ := zb1_elim h
  refine z_callS (As := [.long ((x1 : Int32).toInt64), .long 0, .long ((((S3.1 k0 51) - 1) : Int32).toInt64)]) zkX12_201 zsX12_in (tX12_in T ((x1 : Int32).toInt64) 0 ((((S3.1 k0 51) - 1) : Int32).toInt64) S3  r4 hc5) rfl rfl (Nat.le_of_ble_eq_true rfl) (by decide) ⟨Nat.le_refl _, Nat.le_refl _⟩ ⟨Nat.le_refl _, Nat.le_refl _⟩ dX12_then_16 ?_
  refine z_if_eq (tgt := 32) dX12_then_19 (by decide) (fun q6 => ?_) (fun q6 => ?_)
  · rw [if_pos q6] at h
    exact z_mask [false, false, false] rfl (tX12_then_b32 T  S3  r h)
  · rw [if_neg q6] at h
    refine z_iload_n dX12_then_22 rfl ?_
    refine z_i2l dX12_then_23 rfl ?_
    refine z_lconst (r := 0) dX12_then_24 rfl ?_
    refine z_lconst (r := 1) dX12_then_25 rfl ?_
    obtain ⟨r7, hc8, h⟩ := zb1_elim h
    refine z_callS (As := [.long ((x2 : Int32).toInt64), .long 0, .long 1]) zkX12_201 zsX12_in (tX12_in T ((x2 : Int32).toInt64) 0 1 S3  r7 hc8) rfl rfl (Nat.le_of_ble_eq_true rfl) (by decide) ⟨Nat.le_refl _, Nat.le_refl _⟩ ⟨Nat.le_refl _, Nat.le_refl _⟩ dX12_then_26 ?_
    refine z_if_ne (tgt := 37) dX12_then_29 (by decide) (fun q9 => ?_) (fun q9 => ?_)
    · rw [if_neg q9] at h
      refine z_iload_n dX12_then_37 rfl ?_
      refine z_if_ne (tgt := 50) dX12_then_38 (by decide) (fun q10 => ?_) (fun q10 => ?_)
      · rw [if_neg q10] at h
        refine z_aload_n dX12_then_50 rfl ?_
        refine z_gA (zF.x zfX12_111) h0.1 dX12_then_51 ?_
        refine z_iload_n dX12_then_54 rfl ?_
        obtain ⟨q11, h⟩ := zgd_elim h
        refine z_iald h0.2.2.2.2.2.2.2.2.2.2.2.2.2.2.2.2.2.2.2.2.2.2.2.2.2.2.2.2.2.2.2.2.2.2.1 (zin_ok q11) dX12_then_55 ?_
        exact z_mask [false, false, false] rfl (tX12_then_b56 T (S3.1 (zr T k0 45) (x1 : Int32).toNatClampNeg) S3  r h)
      · rw [if_pos q10] at h
        refine z_aload_n dX12_then_41 rfl ?_
        refine z_gA (zF.x zfX12_108) h0.1 dX12_then_42 ?_
        refine z_iload_n dX12_then_45 rfl ?_
        obtain ⟨q12, h⟩ := zgd_elim h
        refine z_iald h0.2.2.2.2.2.2.2.2.2.2.2.2.2.2.2.2.2.2.2.2.2.2.2.2.2.2.2.2.2.2.2.2.2.1 (zin_ok q12) dX12_then_46 ?_
        refine z_goto (tgt := 56) dX12_then_47 (by decide) ?_
        exact z_mask [false, false, false] rfl (tX12_then_b56 T (S3.1 (zr T k0 44) (x1 : Int32).toNatClampNeg) S3  r h)
    · rw [if_pos q9] at h
      exact z_mask [false, false, false] rfl (tX12_then_b32 T  S3  r h)
/-! X12_holds -/
noncomputable def fX12_holds_b16 (T : zT)  (S : zS) : Option (Int32 × zS) :=
  some ((-1), S)
noncomputable def fX12_holds_b63 (T : zT) (k0 : Nat) (x2 : Int32) (x4 : Int32) (s0 : Int32) (s1 : Int32) (S : zS) : Option ((Int32 × Int32 × zS) ⊕ (Int32 × zS)) :=
  zlet (s1 + s0) fun u11 => zlet (x4 + 1) fun u12 => some (.inl (u11, u12, S))
noncomputable def fX12_holds_b62 (T : zT) (k0 : Nat) (x2 : Int32) (x4 : Int32) (s0 : Int32) (S : zS) : Option ((Int32 × Int32 × zS) ⊕ (Int32 × zS)) :=
  fX12_holds_b63 T k0 x2 x4 0 s0 S
noncomputable def fX12_holds_l29 (T : zT) (k0 : Nat) (x2 : Int32) (x3 : Int32) (x4 : Int32) (S : zS) : Option ((Int32 × Int32 × zS) ⊕ (Int32 × zS)) :=
  if x2 ≤ x4 then some (.inr (x3, S)) else zb (fX12_goesBy T k0 1 0 S) fun _ S9 => if (S9.1 k0 49) = (-1) then if (S9.1 k0 50) = (-1) then fX12_holds_b63 T k0 x2 x4 1 x3 S9 else fX12_holds_b62 T k0 x2 x4 x3 S9 else fX12_holds_b62 T k0 x2 x4 x3 S9
noncomputable def fX12_holds (T : zT) (k0 : Nat) (x1 : Int32) (x2 : Int32) (S : zS) : Option (Int32 × zS) :=
  if x1 < 0 then fX12_holds_b16 T  S else zb1 (fX12_in T ((x2 : Int32).toInt64) 1 100 S) fun r2 => if r2 = 0 then fX12_holds_b16 T  S else zlet (zJ S k0 52 ((x1 : Int32).toInt64)) fun S5 => zb1 (lp (fun a => fX12_holds_l29 T k0 x2 a.1 a.2.1 a.2.2) (0, 0, S5)) fun e14 => some (e14.1, e14.2)
set_option maxHeartbeats 4000000 in
set_option maxRecDepth 100000 in
theorem tX12_holds_b16 (T : zT)  (S : zS)  {g : zG} (r : (Int32 × zS)) (h : fX12_holds_b16 T  S = some r)  : zg g 6 mX12_holds T 16 [none, none, none, none, none] [] T S (some (.int r.1)) T r.2 := by
  unfold fX12_holds_b16 at h
  refine z_iconst dX12_holds_16 cI_m1 ?_
  cases h
  exact z_iret rfl dX12_holds_17
set_option maxHeartbeats 4000000 in
set_option maxRecDepth 100000 in
theorem tX12_holds_b63 (T : zT) (k0 : Nat) (x2 : Int32) (x4 : Int32) (s0 : Int32) (s1 : Int32) (S : zS) (h0 : iX12 T k0) {g : zG} {v : Option Value} {S' : zS} (r : ((Int32 × Int32 × zS) ⊕ (Int32 × zS))) (h : fX12_holds_b63 T k0 x2 x4 s0 s1 S = some r) (K1 : ∀ a : (Int32 × Int32 × zS), r = .inl a → zg g 6 mX12_holds T 29 [some (.ref k0), none, some (.int x2), some (.int a.1), some (.int a.2.1)] [] T a.2.2 v T S') (K2_0 : ∀ e : (Int32 × zS), r = .inr e → zg g 6 mX12_holds T 71 [none, none, none, some (.int e.1), none] [] T e.2 v T S') : zg g 6 mX12_holds T 63 [some (.ref k0), none, some (.int x2), none, some (.int x4)] [.int s0, .int s1] T S v T S' := by
  unfold fX12_holds_b63 at h
  refine z_iadd dX12_holds_63 rfl ?_
  obtain ⟨u11, eu11, h⟩ := zlet_elim h
  refine z_ti eu11 ?_
  refine z_istore_n dX12_holds_64 rfl (by decide) rfl ?_
  obtain ⟨u12, eu12, h⟩ := zlet_elim h
  refine z_iinc (r := u12) dX12_holds_65 rfl (by rw [eu12, cI_1]) rfl (by decide) rfl ?_
  refine z_goto (tgt := 29) dX12_holds_68 (by decide) ?_
  cases h
  exact z_mask [true, false, true, true, true] rfl (K1 _ rfl)
set_option maxHeartbeats 4000000 in
set_option maxRecDepth 100000 in
theorem tX12_holds_b62 (T : zT) (k0 : Nat) (x2 : Int32) (x4 : Int32) (s0 : Int32) (S : zS) (h0 : iX12 T k0) {g : zG} {v : Option Value} {S' : zS} (r : ((Int32 × Int32 × zS) ⊕ (Int32 × zS))) (h : fX12_holds_b62 T k0 x2 x4 s0 S = some r) (K1 : ∀ a : (Int32 × Int32 × zS), r = .inl a → zg g 6 mX12_holds T 29 [some (.ref k0), none, some (.int x2), some (.int a.1), some (.int a.2.1)] [] T a.2.2 v T S') (K2_0 : ∀ e : (Int32 × zS), r = .inr e → zg g 6 mX12_holds T 71 [none, none, none, some (.int e.1), none] [] T e.2 v T S') : zg g 6 mX12_holds T 62 [some (.ref k0), none, some (.int x2), none, some (.int x4)] [.int s0] T S v T S' := by
  unfold fX12_holds_b62 at h
  refine z_iconst dX12_holds_62 cI_0 ?_
  exact z_mask [true, false, true, false, true] rfl (tX12_holds_b63 T k0 x2 x4 0 s0 S h0 r h K1 K2_0)
set_option maxHeartbeats 4000000 in
set_option maxRecDepth 100000 in
theorem tX12_holds_l29b (T : zT) (k0 : Nat) (x2 : Int32) (x3 : Int32) (x4 : Int32) (S : zS) (h0 : iX12 T k0) {g : zG} {v : Option Value} {S' : zS} (r : (Int32 × Int32 × zS) ⊕ (Int32 × zS)) (h : fX12_holds_l29 T k0 x2 x3 x4 S = some r) (K1 : ∀ a : (Int32 × Int32 × zS), r = .inl a → zg g 6 mX12_holds T 29 [some (.ref k0), none, some (.int x2), some (.int a.1), some (.int a.2.1)] [] T a.2.2 v T S') (K2_0 : ∀ e : (Int32 × zS), r = .inr e → zg g 6 mX12_holds T 71 [none, none, none, some (.int e.1), none] [] T e.2 v T S') : zg g 6 mX12_holds T 29 [some (.ref k0), none, some (.int x2), some (.int x3), some (.int x4)] [] T S v T S' := by
  unfold fX12_holds_l29 at h
  refine z_iload dX12_holds_29 rfl ?_
  refine z_iload_n dX12_holds_31 rfl ?_
  refine z_icmp_ge (tgt := 71) dX12_holds_32 (by decide) (fun q6 => ?_) (fun q6 => ?_)
  · rw [if_pos q6] at h
    cases h
    exact z_mask [false, false, false, true, false] rfl (K2_0 _ rfl)
  · rw [if_neg q6] at h
    refine z_aload_n dX12_holds_35 rfl ?_
    refine z_iconst dX12_holds_36 cI_1 ?_
    refine z_iconst dX12_holds_37 cI_0 ?_
    obtain ⟨r7, S9, hc8, h⟩ := zb_elim h
    refine z_callV (As := [.int 1, .int 0]) zcX12 zkX12_454 ziX12_goesBy zqX12_goesBy h0.1 (tX12_goesBy T k0 1 0 S h0 (r7, S9) hc8) rfl rfl (Nat.le_of_ble_eq_true rfl) (by decide) ⟨Nat.le_refl _, Nat.le_refl _⟩ ⟨Nat.le_refl _, Nat.le_refl _⟩ dX12_holds_38 ?_
    refine z_iload_n dX12_holds_41 rfl ?_
    refine z_aload_n dX12_holds_42 rfl ?_
    refine z_gI (zF.x zfX12_408) h0.1 dX12_holds_43 ?_
    refine z_iconst dX12_holds_46 cI_m1 ?_
    refine z_icmp_ne (tgt := 62) dX12_holds_47 (by decide) (fun q10 => ?_) (fun q10 => ?_)
    · rw [if_neg q10] at h
      exact z_mask [true, false, true, false, true] rfl (tX12_holds_b62 T k0 x2 x4 x3 S9 h0 r h K1 K2_0)
    · rw [if_pos q10] at h
      refine z_aload_n dX12_holds_50 rfl ?_
      refine z_gI (zF.x zfX12_411) h0.1 dX12_holds_51 ?_
      refine z_iconst dX12_holds_54 cI_m1 ?_
      refine z_icmp_ne (tgt := 62) dX12_holds_55 (by decide) (fun q13 => ?_) (fun q13 => ?_)
      · rw [if_neg q13] at h
        exact z_mask [true, false, true, false, true] rfl (tX12_holds_b62 T k0 x2 x4 x3 S9 h0 r h K1 K2_0)
      · rw [if_pos q13] at h
        refine z_iconst dX12_holds_58 cI_1 ?_
        refine z_goto (tgt := 63) dX12_holds_59 (by decide) ?_
        exact z_mask [true, false, true, false, true] rfl (tX12_holds_b63 T k0 x2 x4 1 x3 S9 h0 r h K1 K2_0)
set_option maxHeartbeats 4000000 in
set_option maxRecDepth 100000 in
theorem tX12_holds_l29 (T : zT) (k0 : Nat) (x2 : Int32) (h0 : iX12 T k0) {g : zG} {v : Option Value} {S' : zS} : ∀ (n : Nat) (a : (Int32 × Int32 × zS)) (e : (Int32 × zS)), lpn (fun a => fX12_holds_l29 T k0 x2 a.1 a.2.1 a.2.2) n a = some e → (∀ e1 : (Int32 × zS), e = e1 → zg g 6 mX12_holds T 71 [none, none, none, some (.int e1.1), none] [] T e1.2 v T S') → zg g 6 mX12_holds T 29 [some (.ref k0), none, some (.int x2), some (.int a.1), some (.int a.2.1)] [] T a.2.2 v T S' := by
  intro n
  induction n with
  | zero =>
    intro a e h
    cases h
  | succ n ih =>
    intro a e h k0_
    rcases lpn_succ h with ⟨a1, ha_, hb_⟩ | ha_
    · exact tX12_holds_l29b T k0 x2 a.1 a.2.1 a.2.2 h0 _ ha_ (fun a2 q => by cases q; exact ih a1 e hb_ k0_) (fun e1 q => by cases q)
    · exact tX12_holds_l29b T k0 x2 a.1 a.2.1 a.2.2 h0 _ ha_ (fun a2 q => by cases q) (fun e1 q => by cases q; exact k0_ _ rfl)
set_option maxHeartbeats 4000000 in
set_option maxRecDepth 100000 in
theorem tX12_holds (T : zT) (k0 : Nat) (x1 : Int32) (x2 : Int32) (S : zS) (h0 : iX12 T k0) (r : Int32 × zS) (h : fX12_holds T k0 x1 x2 S = some r) : zGM 6 mX12_holds [.ref k0, .int x1, .int x2] T S (some (.int r.1)) T r.2 := by
  refine zGM_of zpnX12 rfl (Nat.le_of_ble_eq_true rfl) (fun g => ?_)
  show zg g 6 mX12_holds T 0 [some (.ref k0), some (.int x1), some (.int x2), none, none] [] T S (some (.int r.1)) T r.2
  unfold fX12_holds at h
  refine z_iload_n dX12_holds_0 rfl ?_
  refine z_if_lt (tgt := 16) dX12_holds_1 (by decide) (fun q1 => ?_) (fun q1 => ?_)
  · rw [if_pos q1] at h
    exact z_mask [false, false, false, false, false] rfl (tX12_holds_b16 T  S  r h)
  · rw [if_neg q1] at h
    refine z_iload_n dX12_holds_4 rfl ?_
    refine z_i2l dX12_holds_5 rfl ?_
    refine z_lconst (r := 1) dX12_holds_6 rfl ?_
    refine z_ldc2 znX12_457 dX12_holds_7 ?_
    obtain ⟨r2, hc3, h⟩ := zb1_elim h
    refine z_callS (As := [.long ((x2 : Int32).toInt64), .long 1, .long 100]) zkX12_201 zsX12_in (tX12_in T ((x2 : Int32).toInt64) 1 100 S  r2 hc3) rfl rfl (Nat.le_of_ble_eq_true rfl) (by decide) ⟨Nat.le_refl _, Nat.le_refl _⟩ ⟨Nat.le_refl _, Nat.le_refl _⟩ dX12_holds_10 ?_
    refine z_if_ne (tgt := 18) dX12_holds_13 (by decide) (fun q4 => ?_) (fun q4 => ?_)
    · rw [if_neg q4] at h
      refine z_aload_n dX12_holds_18 rfl ?_
      refine z_iload_n dX12_holds_19 rfl ?_
      refine z_i2l dX12_holds_20 rfl ?_
      refine z_putJ zfX12_423 h0.1 dX12_holds_21 ?_
      obtain ⟨S5, eS5, h⟩ := zlet_elim h
      refine z_tS eS5 ?_
      refine z_iconst dX12_holds_24 cI_0 ?_
      refine z_istore_n dX12_holds_25 rfl (by decide) rfl ?_
      refine z_iconst dX12_holds_26 cI_0 ?_
      refine z_istore dX12_holds_27 rfl (by decide) rfl ?_
      obtain ⟨e14, hl15, h⟩ := zb1_elim h
      obtain ⟨nf16, hl15⟩ := lp_some hl15
      refine z_mask [true, false, true, true, true] rfl (tX12_holds_l29 T k0 x2 h0 nf16 (0, 0, S5) e14 hl15 (fun e_ q => ?_))
      · cases q
        refine z_iload_n dX12_holds_71 rfl ?_
        cases h
        exact z_iret rfl dX12_holds_72
    · rw [if_pos q4] at h
      exact z_mask [false, false, false, false, false] rfl (tX12_holds_b16 T  S  r h)
/-! X12_surely -/
noncomputable def fX12_surely_b79 (T : zT) (k0 : Nat) (l1 : Int64) (x3 : Int32) (x6 : Int32) (s0 : Int32) (s1 : Int64) (S : zS) : Option ((Int64 × Int32) ⊕ Int64) :=
  zlet ((s1 * ((s0 : Int32).toInt64)) / 1000) fun w9 => zlet (x6 + 1) fun u10 => some (.inl (w9, u10))
noncomputable def fX12_surely_l37 (T : zT) (k0 : Nat) (l1 : Int64) (x3 : Int32) (S : zS) (l4 : Int64) (x6 : Int32) : Option ((Int64 × Int32) ⊕ Int64) :=
  zgd (zin 0 2) (if (S.1 (zr T k0 33) (0 : Int32).toNatClampNeg) ≤ x6 then some (.inr l4) else if ((x3 >>> (x6 &&& 31)) &&& 1) = 1 then zgd (zin 0 2) (fX12_surely_b79 T k0 l1 x3 x6 (S.1 (zr T k0 29) (0 : Int32).toNatClampNeg) l4 S) else zgd (zin 0 2) (fX12_surely_b79 T k0 l1 x3 x6 (1000 - (S.1 (zr T k0 29) (0 : Int32).toNatClampNeg)) l4 S))
noncomputable def fX12_surely_b122 (T : zT) (k0 : Nat) (x3 : Int32) (s0 : Int64) (s1 : Int64) (S : zS) : Option ((Int64 × Int32 × zS) ⊕ (Int64 × zS)) :=
  zlet (s1 + s0) fun w17 => zlet (x3 + 1) fun u18 => some (.inl (w17, u18, S))
noncomputable def fX12_surely_b121 (T : zT) (k0 : Nat) (x3 : Int32) (s0 : Int64) (S : zS) : Option ((Int64 × Int32 × zS) ⊕ (Int64 × zS)) :=
  fX12_surely_b122 T k0 x3 0 s0 S
noncomputable def fX12_surely_l17 (T : zT) (k0 : Nat) (l1 : Int64) (x3 : Int32) (S : zS) : Option ((Int64 × Int32 × zS) ⊕ (Int64 × zS)) :=
  zgd (zin 0 2) (if (1 <<< ((S.1 (zr T k0 33) (0 : Int32).toNatClampNeg) &&& 31)) ≤ x3 then some (.inr (l1, S)) else zb1 (lp (fun a => fX12_surely_l37 T k0 l1 x3 S a.1 a.2) (1000000000, 0)) fun e12 => zb (fX12_goesBy T k0 2 x3 S) fun _ S15 => if (S15.1 k0 49) = (-1) then if (S15.1 k0 50) = (-1) then fX12_surely_b122 T k0 x3 e12 l1 S15 else fX12_surely_b121 T k0 x3 l1 S15 else fX12_surely_b121 T k0 x3 l1 S15)
noncomputable def fX12_surely (T : zT) (k0 : Nat) (S : zS) : Option (Int32 × zS) :=
  zgd (zin 0 2) (if (S.1 (zr T k0 33) (0 : Int32).toNatClampNeg) ≤ 10 then zb1 (lp (fun a => fX12_surely_l17 T k0 a.1 a.2.1 a.2.2) (0, 0, S)) fun e22 => some (((e22.1 : Int64).toInt32), e22.2) else some ((-1), S))
set_option maxHeartbeats 4000000 in
set_option maxRecDepth 100000 in
theorem tX12_surely_b79 (T : zT) (k0 : Nat) (l1 : Int64) (x3 : Int32) (x6 : Int32) (s0 : Int32) (s1 : Int64) (S : zS) (h0 : iX12 T k0) {g : zG} {v : Option Value} {S' : zS} (r : ((Int64 × Int32) ⊕ Int64)) (h : fX12_surely_b79 T k0 l1 x3 x6 s0 s1 S = some r) (K1 : ∀ a : (Int64 × Int32), r = .inl a → zg g 6 mX12_surely T 37 [some (.ref k0), some (.long l1), none, some (.int x3), some (.long a.1), none, some (.int a.2)] [] T S v T S') (K2_0 : ∀ e : Int64, r = .inr e → zg g 6 mX12_surely T 93 [some (.ref k0), some (.long l1), none, some (.int x3), some (.long e), none, none] [] T S v T S') : zg g 6 mX12_surely T 79 [some (.ref k0), some (.long l1), none, some (.int x3), none, none, some (.int x6)] [.int s0, .long s1] T S v T S' := by
  unfold fX12_surely_b79 at h
  refine z_i2l dX12_surely_79 rfl ?_
  refine z_lmul dX12_surely_80 rfl ?_
  refine z_ldc2 znX12_435 dX12_surely_81 ?_
  refine z_ldiv dX12_surely_84 (by decide) rfl ?_
  obtain ⟨w9, ew9, h⟩ := zlet_elim h
  refine z_tl ew9 ?_
  refine z_lstore dX12_surely_85 rfl (by decide) rfl ?_
  obtain ⟨u10, eu10, h⟩ := zlet_elim h
  refine z_iinc (r := u10) dX12_surely_87 rfl (by rw [eu10, cI_1]) rfl (by decide) rfl ?_
  refine z_goto (tgt := 37) dX12_surely_90 (by decide) ?_
  cases h
  exact z_mask [true, true, false, true, true, false, true] rfl (K1 _ rfl)
set_option maxHeartbeats 4000000 in
set_option maxRecDepth 100000 in
theorem tX12_surely_l37b (T : zT) (k0 : Nat) (l1 : Int64) (x3 : Int32) (S : zS) (l4 : Int64) (x6 : Int32) (h0 : iX12 T k0) {g : zG} {v : Option Value} {S' : zS} (r : (Int64 × Int32) ⊕ Int64) (h : fX12_surely_l37 T k0 l1 x3 S l4 x6 = some r) (K1 : ∀ a : (Int64 × Int32), r = .inl a → zg g 6 mX12_surely T 37 [some (.ref k0), some (.long l1), none, some (.int x3), some (.long a.1), none, some (.int a.2)] [] T S v T S') (K2_0 : ∀ e : Int64, r = .inr e → zg g 6 mX12_surely T 93 [some (.ref k0), some (.long l1), none, some (.int x3), some (.long e), none, none] [] T S v T S') : zg g 6 mX12_surely T 37 [some (.ref k0), some (.long l1), none, some (.int x3), some (.long l4), none, some (.int x6)] [] T S v T S' := by
  unfold fX12_surely_l37 at h
  refine z_iload dX12_surely_37 rfl ?_
  refine z_aload_n dX12_surely_39 rfl ?_
  refine z_gA (zF.x zfX12_77) h0.1 dX12_surely_40 ?_
  refine z_iconst dX12_surely_43 cI_0 ?_
  obtain ⟨q5, h⟩ := zgd_elim h
  refine z_iald h0.2.2.2.2.2.2.2.2.2.2.2.2.2.2.2.2.2.2.2.2.2.2.2.1 (zin_ok q5) dX12_surely_44 ?_
  refine z_icmp_ge (tgt := 93) dX12_surely_45 (by decide) (fun q6 => ?_) (fun q6 => ?_)
  · rw [if_pos q6] at h
    cases h
    exact z_mask [true, true, false, true, true, false, false] rfl (K2_0 _ rfl)
  · rw [if_neg q6] at h
    refine z_lload dX12_surely_48 rfl ?_
    refine z_iload_n dX12_surely_50 rfl ?_
    refine z_iload dX12_surely_51 rfl ?_
    refine z_ishr dX12_surely_53 rfl ?_
    refine z_iconst dX12_surely_54 cI_1 ?_
    refine z_iand dX12_surely_55 rfl ?_
    refine z_iconst dX12_surely_56 cI_1 ?_
    refine z_icmp_ne (tgt := 69) dX12_surely_57 (by decide) (fun q7 => ?_) (fun q7 => ?_)
    · rw [if_neg q7] at h
      refine z_sipush dX12_surely_69 cS_1000 ?_
      refine z_aload_n dX12_surely_72 rfl ?_
      refine z_gA (zF.x zfX12_65) h0.1 dX12_surely_73 ?_
      refine z_iconst dX12_surely_76 cI_0 ?_
      obtain ⟨q8, h⟩ := zgd_elim h
      refine z_iald h0.2.2.2.2.2.2.2.2.2.2.2.2.2.2.2.2.2.2.2.1 (zin_ok q8) dX12_surely_77 ?_
      refine z_isub dX12_surely_78 rfl ?_
      exact z_mask [true, true, false, true, false, false, true] rfl (tX12_surely_b79 T k0 l1 x3 x6 (1000 - (S.1 (zr T k0 29) (0 : Int32).toNatClampNeg)) l4 S h0 r h K1 K2_0)
    · rw [if_pos q7] at h
      refine z_aload_n dX12_surely_60 rfl ?_
      refine z_gA (zF.x zfX12_65) h0.1 dX12_surely_61 ?_
      refine z_iconst dX12_surely_64 cI_0 ?_
      obtain ⟨q11, h⟩ := zgd_elim h
      refine z_iald h0.2.2.2.2.2.2.2.2.2.2.2.2.2.2.2.2.2.2.2.1 (zin_ok q11) dX12_surely_65 ?_
      refine z_goto (tgt := 79) dX12_surely_66 (by decide) ?_
      exact z_mask [true, true, false, true, false, false, true] rfl (tX12_surely_b79 T k0 l1 x3 x6 (S.1 (zr T k0 29) (0 : Int32).toNatClampNeg) l4 S h0 r h K1 K2_0)
set_option maxHeartbeats 4000000 in
set_option maxRecDepth 100000 in
theorem tX12_surely_l37 (T : zT) (k0 : Nat) (l1 : Int64) (x3 : Int32) (S : zS) (h0 : iX12 T k0) {g : zG} {v : Option Value} {S' : zS} : ∀ (n : Nat) (a : (Int64 × Int32)) (e : Int64), lpn (fun a => fX12_surely_l37 T k0 l1 x3 S a.1 a.2) n a = some e → (∀ e1 : Int64, e = e1 → zg g 6 mX12_surely T 93 [some (.ref k0), some (.long l1), none, some (.int x3), some (.long e1), none, none] [] T S v T S') → zg g 6 mX12_surely T 37 [some (.ref k0), some (.long l1), none, some (.int x3), some (.long a.1), none, some (.int a.2)] [] T S v T S' := by
  intro n
  induction n with
  | zero =>
    intro a e h
    cases h
  | succ n ih =>
    intro a e h k0_
    rcases lpn_succ h with ⟨a1, ha_, hb_⟩ | ha_
    · exact tX12_surely_l37b T k0 l1 x3 S a.1 a.2 h0 _ ha_ (fun a2 q => by cases q; exact ih a1 e hb_ k0_) (fun e1 q => by cases q)
    · exact tX12_surely_l37b T k0 l1 x3 S a.1 a.2 h0 _ ha_ (fun a2 q => by cases q) (fun e1 q => by cases q; exact k0_ _ rfl)
set_option maxHeartbeats 4000000 in
set_option maxRecDepth 100000 in
theorem tX12_surely_b122 (T : zT) (k0 : Nat) (x3 : Int32) (s0 : Int64) (s1 : Int64) (S : zS) (h0 : iX12 T k0) {g : zG} {v : Option Value} {S' : zS} (r : ((Int64 × Int32 × zS) ⊕ (Int64 × zS))) (h : fX12_surely_b122 T k0 x3 s0 s1 S = some r) (K1 : ∀ a : (Int64 × Int32 × zS), r = .inl a → zg g 6 mX12_surely T 17 [some (.ref k0), some (.long a.1), none, some (.int a.2.1), none, none, none] [] T a.2.2 v T S') (K2_0 : ∀ e : (Int64 × zS), r = .inr e → zg g 6 mX12_surely T 130 [none, some (.long e.1), none, none, none, none, none] [] T e.2 v T S') : zg g 6 mX12_surely T 122 [some (.ref k0), none, none, some (.int x3), none, none, none] [.long s0, .long s1] T S v T S' := by
  unfold fX12_surely_b122 at h
  refine z_ladd dX12_surely_122 rfl ?_
  obtain ⟨w17, ew17, h⟩ := zlet_elim h
  refine z_tl ew17 ?_
  refine z_lstore_n dX12_surely_123 rfl (by decide) rfl ?_
  obtain ⟨u18, eu18, h⟩ := zlet_elim h
  refine z_iinc (r := u18) dX12_surely_124 rfl (by rw [eu18, cI_1]) rfl (by decide) rfl ?_
  refine z_goto (tgt := 17) dX12_surely_127 (by decide) ?_
  cases h
  exact z_mask [true, true, false, true, false, false, false] rfl (K1 _ rfl)
set_option maxHeartbeats 4000000 in
set_option maxRecDepth 100000 in
theorem tX12_surely_b121 (T : zT) (k0 : Nat) (x3 : Int32) (s0 : Int64) (S : zS) (h0 : iX12 T k0) {g : zG} {v : Option Value} {S' : zS} (r : ((Int64 × Int32 × zS) ⊕ (Int64 × zS))) (h : fX12_surely_b121 T k0 x3 s0 S = some r) (K1 : ∀ a : (Int64 × Int32 × zS), r = .inl a → zg g 6 mX12_surely T 17 [some (.ref k0), some (.long a.1), none, some (.int a.2.1), none, none, none] [] T a.2.2 v T S') (K2_0 : ∀ e : (Int64 × zS), r = .inr e → zg g 6 mX12_surely T 130 [none, some (.long e.1), none, none, none, none, none] [] T e.2 v T S') : zg g 6 mX12_surely T 121 [some (.ref k0), none, none, some (.int x3), none, none, none] [.long s0] T S v T S' := by
  unfold fX12_surely_b121 at h
  refine z_lconst (r := 0) dX12_surely_121 rfl ?_
  exact z_mask [true, false, false, true, false, false, false] rfl (tX12_surely_b122 T k0 x3 0 s0 S h0 r h K1 K2_0)
set_option maxHeartbeats 4000000 in
set_option maxRecDepth 100000 in
theorem tX12_surely_l17b (T : zT) (k0 : Nat) (l1 : Int64) (x3 : Int32) (S : zS) (h0 : iX12 T k0) {g : zG} {v : Option Value} {S' : zS} (r : (Int64 × Int32 × zS) ⊕ (Int64 × zS)) (h : fX12_surely_l17 T k0 l1 x3 S = some r) (K1 : ∀ a : (Int64 × Int32 × zS), r = .inl a → zg g 6 mX12_surely T 17 [some (.ref k0), some (.long a.1), none, some (.int a.2.1), none, none, none] [] T a.2.2 v T S') (K2_0 : ∀ e : (Int64 × zS), r = .inr e → zg g 6 mX12_surely T 130 [none, some (.long e.1), none, none, none, none, none] [] T e.2 v T S') : zg g 6 mX12_surely T 17 [some (.ref k0), some (.long l1), none, some (.int x3), none, none, none] [] T S v T S' := by
  unfold fX12_surely_l17 at h
  refine z_iload_n dX12_surely_17 rfl ?_
  refine z_iconst dX12_surely_18 cI_1 ?_
  refine z_aload_n dX12_surely_19 rfl ?_
  refine z_gA (zF.x zfX12_77) h0.1 dX12_surely_20 ?_
  refine z_iconst dX12_surely_23 cI_0 ?_
  obtain ⟨q3, h⟩ := zgd_elim h
  refine z_iald h0.2.2.2.2.2.2.2.2.2.2.2.2.2.2.2.2.2.2.2.2.2.2.2.1 (zin_ok q3) dX12_surely_24 ?_
  refine z_ishl dX12_surely_25 rfl ?_
  refine z_icmp_ge (tgt := 130) dX12_surely_26 (by decide) (fun q4 => ?_) (fun q4 => ?_)
  · rw [if_pos q4] at h
    cases h
    exact z_mask [false, true, false, false, false, false, false] rfl (K2_0 _ rfl)
  · rw [if_neg q4] at h
    refine z_ldc2 znX12_459 dX12_surely_29 ?_
    refine z_lstore dX12_surely_32 rfl (by decide) rfl ?_
    refine z_iconst dX12_surely_34 cI_0 ?_
    refine z_istore dX12_surely_35 rfl (by decide) rfl ?_
    obtain ⟨e12, hl20, h⟩ := zb1_elim h
    obtain ⟨nf21, hl20⟩ := lp_some hl20
    refine z_mask [true, true, false, true, true, false, true] rfl (tX12_surely_l37 T k0 l1 x3 S h0 nf21 (1000000000, 0) e12 hl20 (fun e_ q => ?_))
    · cases q
      refine z_aload_n dX12_surely_93 rfl ?_
      refine z_iconst dX12_surely_94 cI_2 ?_
      refine z_iload_n dX12_surely_95 rfl ?_
      obtain ⟨r13, S15, hc14, h⟩ := zb_elim h
      refine z_callV (As := [.int 2, .int x3]) zcX12 zkX12_454 ziX12_goesBy zqX12_goesBy h0.1 (tX12_goesBy T k0 2 x3 S h0 (r13, S15) hc14) rfl rfl (Nat.le_of_ble_eq_true rfl) (by decide) ⟨Nat.le_refl _, Nat.le_refl _⟩ ⟨Nat.le_refl _, Nat.le_refl _⟩ dX12_surely_96 ?_
      refine z_lload_n dX12_surely_99 rfl ?_
      refine z_aload_n dX12_surely_100 rfl ?_
      refine z_gI (zF.x zfX12_408) h0.1 dX12_surely_101 ?_
      refine z_iconst dX12_surely_104 cI_m1 ?_
      refine z_icmp_ne (tgt := 121) dX12_surely_105 (by decide) (fun q16 => ?_) (fun q16 => ?_)
      · rw [if_neg q16] at h
        exact z_mask [true, false, false, true, false, false, false] rfl (tX12_surely_b121 T k0 x3 l1 S15 h0 r h K1 K2_0)
      · rw [if_pos q16] at h
        refine z_aload_n dX12_surely_108 rfl ?_
        refine z_gI (zF.x zfX12_411) h0.1 dX12_surely_109 ?_
        refine z_iconst dX12_surely_112 cI_m1 ?_
        refine z_icmp_ne (tgt := 121) dX12_surely_113 (by decide) (fun q19 => ?_) (fun q19 => ?_)
        · rw [if_neg q19] at h
          exact z_mask [true, false, false, true, false, false, false] rfl (tX12_surely_b121 T k0 x3 l1 S15 h0 r h K1 K2_0)
        · rw [if_pos q19] at h
          refine z_lload dX12_surely_116 rfl ?_
          refine z_goto (tgt := 122) dX12_surely_118 (by decide) ?_
          exact z_mask [true, false, false, true, false, false, false] rfl (tX12_surely_b122 T k0 x3 e12 l1 S15 h0 r h K1 K2_0)
set_option maxHeartbeats 4000000 in
set_option maxRecDepth 100000 in
theorem tX12_surely_l17 (T : zT) (k0 : Nat) (h0 : iX12 T k0) {g : zG} {v : Option Value} {S' : zS} : ∀ (n : Nat) (a : (Int64 × Int32 × zS)) (e : (Int64 × zS)), lpn (fun a => fX12_surely_l17 T k0 a.1 a.2.1 a.2.2) n a = some e → (∀ e1 : (Int64 × zS), e = e1 → zg g 6 mX12_surely T 130 [none, some (.long e1.1), none, none, none, none, none] [] T e1.2 v T S') → zg g 6 mX12_surely T 17 [some (.ref k0), some (.long a.1), none, some (.int a.2.1), none, none, none] [] T a.2.2 v T S' := by
  intro n
  induction n with
  | zero =>
    intro a e h
    cases h
  | succ n ih =>
    intro a e h k0_
    rcases lpn_succ h with ⟨a1, ha_, hb_⟩ | ha_
    · exact tX12_surely_l17b T k0 a.1 a.2.1 a.2.2 h0 _ ha_ (fun a2 q => by cases q; exact ih a1 e hb_ k0_) (fun e1 q => by cases q)
    · exact tX12_surely_l17b T k0 a.1 a.2.1 a.2.2 h0 _ ha_ (fun a2 q => by cases q) (fun e1 q => by cases q; exact k0_ _ rfl)
set_option maxHeartbeats 4000000 in
set_option maxRecDepth 100000 in
theorem tX12_surely (T : zT) (k0 : Nat) (S : zS) (h0 : iX12 T k0) (r : Int32 × zS) (h : fX12_surely T k0 S = some r) : zGM 6 mX12_surely [.ref k0] T S (some (.int r.1)) T r.2 := by
  refine zGM_of zpnX12 rfl (Nat.le_of_ble_eq_true rfl) (fun g => ?_)
  show zg g 6 mX12_surely T 0 [some (.ref k0), none, none, none, none, none, none] [] T S (some (.int r.1)) T r.2
  unfold fX12_surely at h
  refine z_aload_n dX12_surely_0 rfl ?_
  refine z_gA (zF.x zfX12_77) h0.1 dX12_surely_1 ?_
  refine z_iconst dX12_surely_4 cI_0 ?_
  obtain ⟨q1, h⟩ := zgd_elim h
  refine z_iald h0.2.2.2.2.2.2.2.2.2.2.2.2.2.2.2.2.2.2.2.2.2.2.2.1 (zin_ok q1) dX12_surely_5 ?_
  refine z_bipush dX12_surely_6 cB_10 ?_
  refine z_icmp_le (tgt := 13) dX12_surely_8 (by decide) (fun q2 => ?_) (fun q2 => ?_)
  · rw [if_pos q2] at h
    refine z_lconst (r := 0) dX12_surely_13 rfl ?_
    refine z_lstore_n dX12_surely_14 rfl (by decide) rfl ?_
    refine z_iconst dX12_surely_15 cI_0 ?_
    refine z_istore_n dX12_surely_16 rfl (by decide) rfl ?_
    obtain ⟨e22, hl23, h⟩ := zb1_elim h
    obtain ⟨nf24, hl23⟩ := lp_some hl23
    refine z_mask [true, true, false, true, false, false, false] rfl (tX12_surely_l17 T k0 h0 nf24 (0, 0, S) e22 hl23 (fun e_ q => ?_))
    · cases q
      refine z_lload_n dX12_surely_130 rfl ?_
      refine z_l2i dX12_surely_131 rfl ?_
      cases h
      exact z_iret rfl dX12_surely_132
  · rw [if_neg q2] at h
    refine z_iconst dX12_surely_11 cI_m1 ?_
    cases h
    exact z_iret rfl dX12_surely_12
/-! X12_mostCoin -/
noncomputable def fX12_mostCoin_b23 (T : zT) (s0 : Int32) (S : zS) : Option (Int32 × zS) :=
  some (s0, S)
noncomputable def fX12_mostCoin (T : zT) (k0 : Nat) (S : zS) : Option (Int32 × zS) :=
  zb (fX12_plans T k0 S) fun _ S3 => zb1 (fX12_atEnd T k0 S3) fun r4 => if r4 = (-1) then fX12_mostCoin_b23 T (-1) S3 else zb1 (fX12_planned T k0 r4 S3) fun r7 => fX12_mostCoin_b23 T r7 S3
set_option maxHeartbeats 4000000 in
set_option maxRecDepth 100000 in
theorem tX12_mostCoin_b23 (T : zT) (s0 : Int32) (S : zS)  {g : zG} (r : (Int32 × zS)) (h : fX12_mostCoin_b23 T s0 S = some r)  : zg g 6 mX12_mostCoin T 23 [none, none] [.int s0] T S (some (.int r.1)) T r.2 := by
  unfold fX12_mostCoin_b23 at h
  cases h
  exact z_iret rfl dX12_mostCoin_23
set_option maxHeartbeats 4000000 in
set_option maxRecDepth 100000 in
theorem tX12_mostCoin (T : zT) (k0 : Nat) (S : zS) (h0 : iX12 T k0) (r : Int32 × zS) (h : fX12_mostCoin T k0 S = some r) : zGM 6 mX12_mostCoin [.ref k0] T S (some (.int r.1)) T r.2 := by
  refine zGM_of zpnX12 rfl (Nat.le_of_ble_eq_true rfl) (fun g => ?_)
  show zg g 6 mX12_mostCoin T 0 [some (.ref k0), none] [] T S (some (.int r.1)) T r.2
  unfold fX12_mostCoin at h
  refine z_aload_n dX12_mostCoin_0 rfl ?_
  obtain ⟨r1, S3, hc2, h⟩ := zb_elim h
  refine z_callV (As := []) zcX12 zkX12_491 ziX12_plans zqX12_plans h0.1 (tX12_plans T k0 S h0 (r1, S3) hc2) rfl rfl (Nat.le_of_ble_eq_true rfl) (by decide) ⟨Nat.le_refl _, Nat.le_refl _⟩ ⟨Nat.le_refl _, Nat.le_refl _⟩ dX12_mostCoin_1 ?_
  refine z_aload_n dX12_mostCoin_4 rfl ?_
  obtain ⟨r4, hc5, h⟩ := zb1_elim h
  refine z_callV (As := []) zcX12 zkX12_494 ziX12_atEnd zqX12_atEnd h0.1 (tX12_atEnd T k0 S3 h0 r4 hc5) rfl rfl (Nat.le_of_ble_eq_true rfl) (by decide) ⟨Nat.le_refl _, Nat.le_refl _⟩ ⟨Nat.le_refl _, Nat.le_refl _⟩ dX12_mostCoin_5 ?_
  refine z_istore_n dX12_mostCoin_8 rfl (by decide) rfl ?_
  refine z_iload_n dX12_mostCoin_9 rfl ?_
  refine z_iconst dX12_mostCoin_10 cI_m1 ?_
  refine z_icmp_ne (tgt := 18) dX12_mostCoin_11 (by decide) (fun q6 => ?_) (fun q6 => ?_)
  · rw [if_neg q6] at h
    refine z_aload_n dX12_mostCoin_18 rfl ?_
    refine z_iload_n dX12_mostCoin_19 rfl ?_
    obtain ⟨r7, hc8, h⟩ := zb1_elim h
    refine z_callV (As := [.int r4]) zcX12 zkX12_488 ziX12_planned zqX12_planned h0.1 (tX12_planned T k0 r4 S3 h0 r7 hc8) rfl rfl (Nat.le_of_ble_eq_true rfl) (by decide) ⟨Nat.le_refl _, Nat.le_refl _⟩ ⟨Nat.le_refl _, Nat.le_refl _⟩ dX12_mostCoin_20 ?_
    exact z_mask [false, false] rfl (tX12_mostCoin_b23 T r7 S3  r h)
  · rw [if_pos q6] at h
    refine z_iconst dX12_mostCoin_14 cI_m1 ?_
    refine z_goto (tgt := 23) dX12_mostCoin_15 (by decide) ?_
    exact z_mask [false, false] rfl (tX12_mostCoin_b23 T (-1) S3  r h)
/-! X12_soon -/
noncomputable def fX12_soon_l10 (T : zT) (k0 : Nat) (S : zS) (x1 : Int32) : Option (Int32 ⊕ (Unit ⊕ Int32)) :=
  zgd (zin 0 2) (if (S.1 (zr T k0 33) (0 : Int32).toNatClampNeg) ≤ x1 then some (.inr (.inl ())) else zb1 (fX12_all T k0 S) fun r9 => zgd (zin ((256 * x1) + r9) 15360) (if (S.1 (zr T k0 53) (((256 * x1) + r9) : Int32).toNatClampNeg) = (-1) then zlet (x1 + 1) fun u13 => some (.inl u13) else some (.inr (.inr x1))))
noncomputable def fX12_soon (T : zT) (k0 : Nat) (S : zS) : Option (Int32 × zS) :=
  zb (fX12_asItIs T k0 S) fun _ S3 => zb (fX12_plans T k0 S3) fun _ S6 => zb1 (lp (fun a => fX12_soon_l10 T k0 S6 a) 0) fun e14 => zsm e14 (fun e14_0 => some ((-1), S6)) (fun e14_1 => some (e14_1, S6))
set_option maxHeartbeats 4000000 in
set_option maxRecDepth 100000 in
theorem tX12_soon_l10b (T : zT) (k0 : Nat) (S : zS) (x1 : Int32) (h0 : iX12 T k0) {g : zG} {v : Option Value} {S' : zS} (r : Int32 ⊕ (Unit ⊕ Int32)) (h : fX12_soon_l10 T k0 S x1 = some r) (K1 : ∀ a : Int32, r = .inl a → zg g 6 mX12_soon T 10 [some (.ref k0), some (.int a)] [] T S v T S') (K2_0 : ∀ e : Unit, r = .inr (.inl e) → zg g 6 mX12_soon T 47 [none, none] [] T S v T S') (K2_1 : ∀ e : Int32, r = .inr (.inr e) → zg g 6 mX12_soon T 39 [none, some (.int e)] [] T S v T S') : zg g 6 mX12_soon T 10 [some (.ref k0), some (.int x1)] [] T S v T S' := by
  unfold fX12_soon_l10 at h
  refine z_iload_n dX12_soon_10 rfl ?_
  refine z_aload_n dX12_soon_11 rfl ?_
  refine z_gA (zF.x zfX12_77) h0.1 dX12_soon_12 ?_
  refine z_iconst dX12_soon_15 cI_0 ?_
  obtain ⟨q7, h⟩ := zgd_elim h
  refine z_iald h0.2.2.2.2.2.2.2.2.2.2.2.2.2.2.2.2.2.2.2.2.2.2.2.1 (zin_ok q7) dX12_soon_16 ?_
  refine z_icmp_ge (tgt := 47) dX12_soon_17 (by decide) (fun q8 => ?_) (fun q8 => ?_)
  · rw [if_pos q8] at h
    cases h
    exact z_mask [false, false] rfl (K2_0 _ rfl)
  · rw [if_neg q8] at h
    refine z_aload_n dX12_soon_20 rfl ?_
    refine z_gA (zF.x zfX12_118) h0.1 dX12_soon_21 ?_
    refine z_sipush dX12_soon_24 cS_256 ?_
    refine z_iload_n dX12_soon_27 rfl ?_
    refine z_imul dX12_soon_28 rfl ?_
    refine z_aload_n dX12_soon_29 rfl ?_
    obtain ⟨r9, hc10, h⟩ := zb1_elim h
    refine z_callV (As := []) zcX12 zkX12_354 ziX12_all zqX12_all h0.1 (tX12_all T k0 S h0 r9 hc10) rfl rfl (Nat.le_of_ble_eq_true rfl) (by decide) ⟨Nat.le_refl _, Nat.le_refl _⟩ ⟨Nat.le_refl _, Nat.le_refl _⟩ dX12_soon_30 ?_
    refine z_iadd dX12_soon_33 rfl ?_
    obtain ⟨q11, h⟩ := zgd_elim h
    refine z_iald h0.2.2.2.2.2.2.2.2.2.2.2.2.2.2.2.2.2.2.2.2.2.2.2.2.2.2.2.2.2.2.2.2.2.2.2.2.1 (zin_ok q11) dX12_soon_34 ?_
    refine z_iconst dX12_soon_35 cI_m1 ?_
    refine z_icmp_eq (tgt := 41) dX12_soon_36 (by decide) (fun q12 => ?_) (fun q12 => ?_)
    · rw [if_pos q12] at h
      obtain ⟨u13, eu13, h⟩ := zlet_elim h
      refine z_iinc (r := u13) dX12_soon_41 rfl (by rw [eu13, cI_1]) rfl (by decide) rfl ?_
      refine z_goto (tgt := 10) dX12_soon_44 (by decide) ?_
      cases h
      exact z_mask [true, true] rfl (K1 _ rfl)
    · rw [if_neg q12] at h
      cases h
      exact z_mask [false, true] rfl (K2_1 _ rfl)
set_option maxHeartbeats 4000000 in
set_option maxRecDepth 100000 in
theorem tX12_soon_l10 (T : zT) (k0 : Nat) (S : zS) (h0 : iX12 T k0) {g : zG} {v : Option Value} {S' : zS} : ∀ (n : Nat) (a : Int32) (e : (Unit ⊕ Int32)), lpn (fun a => fX12_soon_l10 T k0 S a) n a = some e → (∀ e1 : Unit, e = (.inl e1) → zg g 6 mX12_soon T 47 [none, none] [] T S v T S') → (∀ e1 : Int32, e = (.inr e1) → zg g 6 mX12_soon T 39 [none, some (.int e1)] [] T S v T S') → zg g 6 mX12_soon T 10 [some (.ref k0), some (.int a)] [] T S v T S' := by
  intro n
  induction n with
  | zero =>
    intro a e h
    cases h
  | succ n ih =>
    intro a e h k0_ k1_
    rcases lpn_succ h with ⟨a1, ha_, hb_⟩ | ha_
    · exact tX12_soon_l10b T k0 S a h0 _ ha_ (fun a2 q => by cases q; exact ih a1 e hb_ k0_ k1_) (fun e1 q => by cases q) (fun e1 q => by cases q)
    · exact tX12_soon_l10b T k0 S a h0 _ ha_ (fun a2 q => by cases q) (fun e1 q => by cases q; exact k0_ _ rfl) (fun e1 q => by cases q; exact k1_ _ rfl)
set_option maxHeartbeats 4000000 in
set_option maxRecDepth 100000 in
theorem tX12_soon (T : zT) (k0 : Nat) (S : zS) (h0 : iX12 T k0) (r : Int32 × zS) (h : fX12_soon T k0 S = some r) : zGM 6 mX12_soon [.ref k0] T S (some (.int r.1)) T r.2 := by
  refine zGM_of zpnX12 rfl (Nat.le_of_ble_eq_true rfl) (fun g => ?_)
  show zg g 6 mX12_soon T 0 [some (.ref k0), none] [] T S (some (.int r.1)) T r.2
  unfold fX12_soon at h
  refine z_aload_n dX12_soon_0 rfl ?_
  obtain ⟨r1, S3, hc2, h⟩ := zb_elim h
  refine z_callV (As := []) zcX12 zkX12_497 ziX12_asItIs zqX12_asItIs h0.1 (tX12_asItIs T k0 S h0 (r1, S3) hc2) rfl rfl (Nat.le_of_ble_eq_true rfl) (by decide) ⟨Nat.le_refl _, Nat.le_refl _⟩ ⟨Nat.le_refl _, Nat.le_refl _⟩ dX12_soon_1 ?_
  refine z_aload_n dX12_soon_4 rfl ?_
  obtain ⟨r4, S6, hc5, h⟩ := zb_elim h
  refine z_callV (As := []) zcX12 zkX12_491 ziX12_plans zqX12_plans h0.1 (tX12_plans T k0 S3 h0 (r4, S6) hc5) rfl rfl (Nat.le_of_ble_eq_true rfl) (by decide) ⟨Nat.le_refl _, Nat.le_refl _⟩ ⟨Nat.le_refl _, Nat.le_refl _⟩ dX12_soon_5 ?_
  refine z_iconst dX12_soon_8 cI_0 ?_
  refine z_istore_n dX12_soon_9 rfl (by decide) rfl ?_
  obtain ⟨e14, hl15, h⟩ := zb1_elim h
  obtain ⟨nf16, hl15⟩ := lp_some hl15
  refine z_mask [true, true] rfl (tX12_soon_l10 T k0 S6 h0 nf16 0 e14 hl15 (fun e14_0 q => ?_) (fun e14_1 q => ?_))
  · cases q
    replace h := zsm_l h
    refine z_iconst dX12_soon_47 cI_m1 ?_
    cases h
    exact z_iret rfl dX12_soon_48
  · cases q
    replace h := zsm_r h
    refine z_iload_n dX12_soon_39 rfl ?_
    cases h
    exact z_iret rfl dX12_soon_40
/-! X12_follows -/
noncomputable def fX12_follows_l6 (T : zT) (k0 : Nat) (x1 : Int32) (x2 : Int32) (x3 : Int32) (S : zS) : Option ((Int32 × zS) ⊕ zS) :=
  if 8 ≤ x3 then some (.inr S) else zgd (zin x3 8) (zlet (zI S (zr T k0 61) (x3 : Int32).toNatClampNeg (-1)) fun S6 => zlet (x3 + 1) fun u7 => some (.inl (u7, S6)))
noncomputable def fX12_follows_b140 (T : zT) (k0 : Nat) (x1 : Int32) (x2 : Int32) (x3 : Int32) (S : zS) : Option ((Int32 × zS) ⊕ zS) :=
  zlet (x3 + 1) fun u15 => some (.inl (u15, S))
noncomputable def fX12_follows_l67 (T : zT) (k0 : Nat) (x1 : Int32) (x2 : Int32) (x3 : Int32) (x4 : Int32) (x5 : Int32) (S : zS) : Option ((Int32 × zS) ⊕ zS) :=
  if x5 = (-1) then some (.inr S) else zb1 (fX12_owedAtFirst T k0 x5 x3 S) fun r23 => zlet (zI S k0 48 ((S.1 k0 48) - r23)) fun S25 => zgd (zin x5 8) (zlet (zI S25 (zr T k0 40) (x5 : Int32).toNatClampNeg 1) fun S27 => zgd (zin x5 8) (zlet (zI S27 (zr T k0 61) (x5 : Int32).toNatClampNeg x3) fun S29 => zb (fX12_nextOf T k0 x1 x3 S29) fun r30 S32 => some (.inl (r30, S32))))
noncomputable def fX12_follows_b136 (T : zT) (k0 : Nat) (x1 : Int32) (x2 : Int32) (x3 : Int32) (s0 : Int32) (s1 : Int32) (s2 : Nat) (S : zS) : Option ((Int32 × zS) ⊕ zS) :=
  zlet (zI S s2 51 (s1 + s0)) fun S38 => fX12_follows_b140 T k0 x1 x2 x3 S38
noncomputable def fX12_follows_l27 (T : zT) (k0 : Nat) (x1 : Int32) (x2 : Int32) (x3 : Int32) (S : zS) : Option ((Int32 × zS) ⊕ zS) :=
  zgd (zin 0 2) (if (S.1 (zr T k0 33) (0 : Int32).toNatClampNeg) ≤ x3 then some (.inr S) else zb (fX12_works T k0 x2 0 x3 S) fun r11 S13 => if (S13.1 k0 50) = (-1) then zb (fX12_loses T k0 x3 S13) fun _ S18 => zb (fX12_nextOf T k0 x1 x3 S18) fun r19 S21 => zb1 (lp (fun a => fX12_follows_l67 T k0 x1 x2 x3 r11 a.1 a.2) (r19, S21)) fun e33 => zb (fX12_ends T k0 x3 r11 e33) fun r34 S36 => if r34 = 0 then fX12_follows_b136 T k0 x1 x2 x3 0 (e33.1 k0 51) k0 S36 else fX12_follows_b136 T k0 x1 x2 x3 1 (e33.1 k0 51) k0 S36 else fX12_follows_b140 T k0 x1 x2 x3 S13)
noncomputable def fX12_follows (T : zT) (k0 : Nat) (x1 : Int32) (x2 : Int32) (S : zS) : Option (Unit × zS) :=
  zb (fX12_begins T k0 S) fun _ S3 => zb1 (lp (fun a => fX12_follows_l6 T k0 x1 x2 a.1 a.2) (0, S3)) fun e8 => zb1 (lp (fun a => fX12_follows_l27 T k0 x1 x2 a.1 a.2) (0, e8)) fun e41 => some ((), e41)
set_option maxHeartbeats 4000000 in
set_option maxRecDepth 100000 in
theorem tX12_follows_l6b (T : zT) (k0 : Nat) (x1 : Int32) (x2 : Int32) (x3 : Int32) (S : zS) (h0 : iX12 T k0) {g : zG} {v : Option Value} {S' : zS} (r : (Int32 × zS) ⊕ zS) (h : fX12_follows_l6 T k0 x1 x2 x3 S = some r) (K1 : ∀ a : (Int32 × zS), r = .inl a → zg g 6 mX12_follows T 6 [some (.ref k0), some (.int x1), some (.int x2), some (.int a.1), none, none] [] T a.2 v T S') (K2_0 : ∀ e : zS, r = .inr e → zg g 6 mX12_follows T 25 [some (.ref k0), some (.int x1), some (.int x2), none, none, none] [] T e v T S') : zg g 6 mX12_follows T 6 [some (.ref k0), some (.int x1), some (.int x2), some (.int x3), none, none] [] T S v T S' := by
  unfold fX12_follows_l6 at h
  refine z_iload_n dX12_follows_6 rfl ?_
  refine z_bipush dX12_follows_7 cB_8 ?_
  refine z_icmp_ge (tgt := 25) dX12_follows_9 (by decide) (fun q4 => ?_) (fun q4 => ?_)
  · rw [if_pos q4] at h
    cases h
    exact z_mask [true, true, true, false, false, false] rfl (K2_0 _ rfl)
  · rw [if_neg q4] at h
    refine z_aload_n dX12_follows_12 rfl ?_
    refine z_gA (zF.x zfX12_124) h0.1 dX12_follows_13 ?_
    refine z_iload_n dX12_follows_16 rfl ?_
    refine z_iconst dX12_follows_17 cI_m1 ?_
    obtain ⟨q5, h⟩ := zgd_elim h
    refine z_iast h0.2.2.2.2.2.2.2.2.2.2.2.2.2.2.2.2.2.2.2.2.2.2.2.2.2.2.2.2.2.2.2.2.2.2.2.2.2.2.1 (zin_ok q5) dX12_follows_18 ?_
    obtain ⟨S6, eS6, h⟩ := zlet_elim h
    refine z_tS eS6 ?_
    obtain ⟨u7, eu7, h⟩ := zlet_elim h
    refine z_iinc (r := u7) dX12_follows_19 rfl (by rw [eu7, cI_1]) rfl (by decide) rfl ?_
    refine z_goto (tgt := 6) dX12_follows_22 (by decide) ?_
    cases h
    exact z_mask [true, true, true, true, false, false] rfl (K1 _ rfl)
set_option maxHeartbeats 4000000 in
set_option maxRecDepth 100000 in
theorem tX12_follows_l6 (T : zT) (k0 : Nat) (x1 : Int32) (x2 : Int32) (h0 : iX12 T k0) {g : zG} {v : Option Value} {S' : zS} : ∀ (n : Nat) (a : (Int32 × zS)) (e : zS), lpn (fun a => fX12_follows_l6 T k0 x1 x2 a.1 a.2) n a = some e → (∀ e1 : zS, e = e1 → zg g 6 mX12_follows T 25 [some (.ref k0), some (.int x1), some (.int x2), none, none, none] [] T e1 v T S') → zg g 6 mX12_follows T 6 [some (.ref k0), some (.int x1), some (.int x2), some (.int a.1), none, none] [] T a.2 v T S' := by
  intro n
  induction n with
  | zero =>
    intro a e h
    cases h
  | succ n ih =>
    intro a e h k0_
    rcases lpn_succ h with ⟨a1, ha_, hb_⟩ | ha_
    · exact tX12_follows_l6b T k0 x1 x2 a.1 a.2 h0 _ ha_ (fun a2 q => by cases q; exact ih a1 e hb_ k0_) (fun e1 q => by cases q)
    · exact tX12_follows_l6b T k0 x1 x2 a.1 a.2 h0 _ ha_ (fun a2 q => by cases q) (fun e1 q => by cases q; exact k0_ _ rfl)
set_option maxHeartbeats 4000000 in
set_option maxRecDepth 100000 in
theorem tX12_follows_b140 (T : zT) (k0 : Nat) (x1 : Int32) (x2 : Int32) (x3 : Int32) (S : zS) (h0 : iX12 T k0) {g : zG} {v : Option Value} {S' : zS} (r : ((Int32 × zS) ⊕ zS)) (h : fX12_follows_b140 T k0 x1 x2 x3 S = some r) (K1 : ∀ a : (Int32 × zS), r = .inl a → zg g 6 mX12_follows T 27 [some (.ref k0), some (.int x1), some (.int x2), some (.int a.1), none, none] [] T a.2 v T S') (K2_0 : ∀ e : zS, r = .inr e → zg g 6 mX12_follows T 146 [none, none, none, none, none, none] [] T e v T S') : zg g 6 mX12_follows T 140 [some (.ref k0), some (.int x1), some (.int x2), some (.int x3), none, none] [] T S v T S' := by
  unfold fX12_follows_b140 at h
  obtain ⟨u15, eu15, h⟩ := zlet_elim h
  refine z_iinc (r := u15) dX12_follows_140 rfl (by rw [eu15, cI_1]) rfl (by decide) rfl ?_
  refine z_goto (tgt := 27) dX12_follows_143 (by decide) ?_
  cases h
  exact z_mask [true, true, true, true, false, false] rfl (K1 _ rfl)
set_option maxHeartbeats 4000000 in
set_option maxRecDepth 100000 in
theorem tX12_follows_l67b (T : zT) (k0 : Nat) (x1 : Int32) (x2 : Int32) (x3 : Int32) (x4 : Int32) (x5 : Int32) (S : zS) (h0 : iX12 T k0) {g : zG} {v : Option Value} {S' : zS} (r : (Int32 × zS) ⊕ zS) (h : fX12_follows_l67 T k0 x1 x2 x3 x4 x5 S = some r) (K1 : ∀ a : (Int32 × zS), r = .inl a → zg g 6 mX12_follows T 67 [some (.ref k0), some (.int x1), some (.int x2), some (.int x3), some (.int x4), some (.int a.1)] [] T a.2 v T S') (K2_0 : ∀ e : zS, r = .inr e → zg g 6 mX12_follows T 116 [some (.ref k0), some (.int x1), some (.int x2), some (.int x3), some (.int x4), none] [] T e v T S') : zg g 6 mX12_follows T 67 [some (.ref k0), some (.int x1), some (.int x2), some (.int x3), some (.int x4), some (.int x5)] [] T S v T S' := by
  unfold fX12_follows_l67 at h
  refine z_iload dX12_follows_67 rfl ?_
  refine z_iconst dX12_follows_69 cI_m1 ?_
  refine z_icmp_eq (tgt := 116) dX12_follows_70 (by decide) (fun q22 => ?_) (fun q22 => ?_)
  · rw [if_pos q22] at h
    cases h
    exact z_mask [true, true, true, true, true, false] rfl (K2_0 _ rfl)
  · rw [if_neg q22] at h
    refine z_aload_n dX12_follows_73 rfl ?_
    refine z_dup dX12_follows_74 rfl ?_
    refine z_gI (zF.x zfX12_401) h0.1 dX12_follows_75 ?_
    refine z_aload_n dX12_follows_78 rfl ?_
    refine z_iload dX12_follows_79 rfl ?_
    refine z_iload_n dX12_follows_81 rfl ?_
    obtain ⟨r23, hc24, h⟩ := zb1_elim h
    refine z_callV (As := [.int x5, .int x3]) zcX12 zkX12_385 ziX12_owedAtFirst zqX12_owedAtFirst h0.1 (tX12_owedAtFirst T k0 x5 x3 S h0 r23 hc24) rfl rfl (Nat.le_of_ble_eq_true rfl) (by decide) ⟨Nat.le_refl _, Nat.le_refl _⟩ ⟨Nat.le_refl _, Nat.le_refl _⟩ dX12_follows_82 ?_
    refine z_isub dX12_follows_85 rfl ?_
    refine z_putI zfX12_401 h0.1 dX12_follows_86 ?_
    obtain ⟨S25, eS25, h⟩ := zlet_elim h
    refine z_tS eS25 ?_
    refine z_aload_n dX12_follows_89 rfl ?_
    refine z_gA (zF.x zfX12_96) h0.1 dX12_follows_90 ?_
    refine z_iload dX12_follows_93 rfl ?_
    refine z_iconst dX12_follows_95 cI_1 ?_
    obtain ⟨q26, h⟩ := zgd_elim h
    refine z_iast h0.2.2.2.2.2.2.2.2.2.2.2.2.2.2.2.2.2.2.2.2.2.2.2.2.2.2.2.2.2.1 (zin_ok q26) dX12_follows_96 ?_
    obtain ⟨S27, eS27, h⟩ := zlet_elim h
    refine z_tS eS27 ?_
    refine z_aload_n dX12_follows_97 rfl ?_
    refine z_gA (zF.x zfX12_124) h0.1 dX12_follows_98 ?_
    refine z_iload dX12_follows_101 rfl ?_
    refine z_iload_n dX12_follows_103 rfl ?_
    obtain ⟨q28, h⟩ := zgd_elim h
    refine z_iast h0.2.2.2.2.2.2.2.2.2.2.2.2.2.2.2.2.2.2.2.2.2.2.2.2.2.2.2.2.2.2.2.2.2.2.2.2.2.2.1 (zin_ok q28) dX12_follows_104 ?_
    obtain ⟨S29, eS29, h⟩ := zlet_elim h
    refine z_tS eS29 ?_
    refine z_aload_n dX12_follows_105 rfl ?_
    refine z_iload_n dX12_follows_106 rfl ?_
    refine z_iload_n dX12_follows_107 rfl ?_
    obtain ⟨r30, S32, hc31, h⟩ := zb_elim h
    refine z_callV (As := [.int x1, .int x3]) zcX12 zkX12_549 ziX12_nextOf zqX12_nextOf h0.1 (tX12_nextOf T k0 x1 x3 S29 h0 (r30, S32) hc31) rfl rfl (Nat.le_of_ble_eq_true rfl) (by decide) ⟨Nat.le_refl _, Nat.le_refl _⟩ ⟨Nat.le_refl _, Nat.le_refl _⟩ dX12_follows_108 ?_
    refine z_istore dX12_follows_111 rfl (by decide) rfl ?_
    refine z_goto (tgt := 67) dX12_follows_113 (by decide) ?_
    cases h
    exact z_mask [true, true, true, true, true, true] rfl (K1 _ rfl)
set_option maxHeartbeats 4000000 in
set_option maxRecDepth 100000 in
theorem tX12_follows_l67 (T : zT) (k0 : Nat) (x1 : Int32) (x2 : Int32) (x3 : Int32) (x4 : Int32) (h0 : iX12 T k0) {g : zG} {v : Option Value} {S' : zS} : ∀ (n : Nat) (a : (Int32 × zS)) (e : zS), lpn (fun a => fX12_follows_l67 T k0 x1 x2 x3 x4 a.1 a.2) n a = some e → (∀ e1 : zS, e = e1 → zg g 6 mX12_follows T 116 [some (.ref k0), some (.int x1), some (.int x2), some (.int x3), some (.int x4), none] [] T e1 v T S') → zg g 6 mX12_follows T 67 [some (.ref k0), some (.int x1), some (.int x2), some (.int x3), some (.int x4), some (.int a.1)] [] T a.2 v T S' := by
  intro n
  induction n with
  | zero =>
    intro a e h
    cases h
  | succ n ih =>
    intro a e h k0_
    rcases lpn_succ h with ⟨a1, ha_, hb_⟩ | ha_
    · exact tX12_follows_l67b T k0 x1 x2 x3 x4 a.1 a.2 h0 _ ha_ (fun a2 q => by cases q; exact ih a1 e hb_ k0_) (fun e1 q => by cases q)
    · exact tX12_follows_l67b T k0 x1 x2 x3 x4 a.1 a.2 h0 _ ha_ (fun a2 q => by cases q) (fun e1 q => by cases q; exact k0_ _ rfl)
set_option maxHeartbeats 4000000 in
set_option maxRecDepth 100000 in
theorem tX12_follows_b136 (T : zT) (k0 : Nat) (x1 : Int32) (x2 : Int32) (x3 : Int32) (s0 : Int32) (s1 : Int32) (s2 : Nat) (S : zS) (h0 : iX12 T k0) (g2 : iX12 T s2) {g : zG} {v : Option Value} {S' : zS} (r : ((Int32 × zS) ⊕ zS)) (h : fX12_follows_b136 T k0 x1 x2 x3 s0 s1 s2 S = some r) (K1 : ∀ a : (Int32 × zS), r = .inl a → zg g 6 mX12_follows T 27 [some (.ref k0), some (.int x1), some (.int x2), some (.int a.1), none, none] [] T a.2 v T S') (K2_0 : ∀ e : zS, r = .inr e → zg g 6 mX12_follows T 146 [none, none, none, none, none, none] [] T e v T S') : zg g 6 mX12_follows T 136 [some (.ref k0), some (.int x1), some (.int x2), some (.int x3), none, none] [.int s0, .int s1, .ref s2] T S v T S' := by
  unfold fX12_follows_b136 at h
  refine z_iadd dX12_follows_136 rfl ?_
  refine z_putI zfX12_414 g2.1 dX12_follows_137 ?_
  obtain ⟨S38, eS38, h⟩ := zlet_elim h
  refine z_tS eS38 ?_
  exact z_mask [true, true, true, true, false, false] rfl (tX12_follows_b140 T k0 x1 x2 x3 S38 h0 r h K1 K2_0)
set_option maxHeartbeats 4000000 in
set_option maxRecDepth 100000 in
theorem tX12_follows_l27b (T : zT) (k0 : Nat) (x1 : Int32) (x2 : Int32) (x3 : Int32) (S : zS) (h0 : iX12 T k0) {g : zG} {v : Option Value} {S' : zS} (r : (Int32 × zS) ⊕ zS) (h : fX12_follows_l27 T k0 x1 x2 x3 S = some r) (K1 : ∀ a : (Int32 × zS), r = .inl a → zg g 6 mX12_follows T 27 [some (.ref k0), some (.int x1), some (.int x2), some (.int a.1), none, none] [] T a.2 v T S') (K2_0 : ∀ e : zS, r = .inr e → zg g 6 mX12_follows T 146 [none, none, none, none, none, none] [] T e v T S') : zg g 6 mX12_follows T 27 [some (.ref k0), some (.int x1), some (.int x2), some (.int x3), none, none] [] T S v T S' := by
  unfold fX12_follows_l27 at h
  refine z_iload_n dX12_follows_27 rfl ?_
  refine z_aload_n dX12_follows_28 rfl ?_
  refine z_gA (zF.x zfX12_77) h0.1 dX12_follows_29 ?_
  refine z_iconst dX12_follows_32 cI_0 ?_
  obtain ⟨q9, h⟩ := zgd_elim h
  refine z_iald h0.2.2.2.2.2.2.2.2.2.2.2.2.2.2.2.2.2.2.2.2.2.2.2.1 (zin_ok q9) dX12_follows_33 ?_
  refine z_icmp_ge (tgt := 146) dX12_follows_34 (by decide) (fun q10 => ?_) (fun q10 => ?_)
  · rw [if_pos q10] at h
    cases h
    exact z_mask [false, false, false, false, false, false] rfl (K2_0 _ rfl)
  · rw [if_neg q10] at h
    refine z_aload_n dX12_follows_37 rfl ?_
    refine z_iload_n dX12_follows_38 rfl ?_
    refine z_iconst dX12_follows_39 cI_0 ?_
    refine z_iload_n dX12_follows_40 rfl ?_
    obtain ⟨r11, S13, hc12, h⟩ := zb_elim h
    refine z_callV (As := [.int x2, .int 0, .int x3]) zcX12 zkX12_440 ziX12_works zqX12_works h0.1 (tX12_works T k0 x2 0 x3 S h0 (r11, S13) hc12) rfl rfl (Nat.le_of_ble_eq_true rfl) (by decide) ⟨Nat.le_refl _, Nat.le_refl _⟩ ⟨Nat.le_refl _, Nat.le_refl _⟩ dX12_follows_41 ?_
    refine z_istore dX12_follows_44 rfl (by decide) rfl ?_
    refine z_aload_n dX12_follows_46 rfl ?_
    refine z_gI (zF.x zfX12_411) h0.1 dX12_follows_47 ?_
    refine z_iconst dX12_follows_50 cI_m1 ?_
    refine z_icmp_ne (tgt := 140) dX12_follows_51 (by decide) (fun q14 => ?_) (fun q14 => ?_)
    · rw [if_neg q14] at h
      exact z_mask [true, true, true, true, false, false] rfl (tX12_follows_b140 T k0 x1 x2 x3 S13 h0 r h K1 K2_0)
    · rw [if_pos q14] at h
      refine z_aload_n dX12_follows_54 rfl ?_
      refine z_iload_n dX12_follows_55 rfl ?_
      obtain ⟨r16, S18, hc17, h⟩ := zb_elim h
      refine z_callV (As := [.int x3]) zcX12 zkX12_444 ziX12_loses zqX12_loses h0.1 (tX12_loses T k0 x3 S13 h0 (r16, S18) hc17) rfl rfl (Nat.le_of_ble_eq_true rfl) (by decide) ⟨Nat.le_refl _, Nat.le_refl _⟩ ⟨Nat.le_refl _, Nat.le_refl _⟩ dX12_follows_56 ?_
      refine z_aload_n dX12_follows_59 rfl ?_
      refine z_iload_n dX12_follows_60 rfl ?_
      refine z_iload_n dX12_follows_61 rfl ?_
      obtain ⟨r19, S21, hc20, h⟩ := zb_elim h
      refine z_callV (As := [.int x1, .int x3]) zcX12 zkX12_549 ziX12_nextOf zqX12_nextOf h0.1 (tX12_nextOf T k0 x1 x3 S18 h0 (r19, S21) hc20) rfl rfl (Nat.le_of_ble_eq_true rfl) (by decide) ⟨Nat.le_refl _, Nat.le_refl _⟩ ⟨Nat.le_refl _, Nat.le_refl _⟩ dX12_follows_62 ?_
      refine z_istore dX12_follows_65 rfl (by decide) rfl ?_
      obtain ⟨e33, hl39, h⟩ := zb1_elim h
      obtain ⟨nf40, hl39⟩ := lp_some hl39
      refine z_mask [true, true, true, true, true, true] rfl (tX12_follows_l67 T k0 x1 x2 x3 r11 h0 nf40 (r19, S21) e33 hl39 (fun e_ q => ?_))
      · cases q
        refine z_aload_n dX12_follows_116 rfl ?_
        refine z_dup dX12_follows_117 rfl ?_
        refine z_gI (zF.x zfX12_414) h0.1 dX12_follows_118 ?_
        refine z_aload_n dX12_follows_121 rfl ?_
        refine z_iload_n dX12_follows_122 rfl ?_
        refine z_iload dX12_follows_123 rfl ?_
        obtain ⟨r34, S36, hc35, h⟩ := zb_elim h
        refine z_callV (As := [.int x3, .int r11]) zcX12 zkX12_450 ziX12_ends zqX12_ends h0.1 (tX12_ends T k0 x3 r11 e33 h0 (r34, S36) hc35) rfl rfl (Nat.le_of_ble_eq_true rfl) (by decide) ⟨Nat.le_refl _, Nat.le_refl _⟩ ⟨Nat.le_refl _, Nat.le_refl _⟩ dX12_follows_125 ?_
        refine z_if_eq (tgt := 135) dX12_follows_128 (by decide) (fun q37 => ?_) (fun q37 => ?_)
        · rw [if_pos q37] at h
          refine z_iconst dX12_follows_135 cI_0 ?_
          exact z_mask [true, true, true, true, false, false] rfl (tX12_follows_b136 T k0 x1 x2 x3 0 (e33.1 k0 51) k0 S36 h0 h0 r h K1 K2_0)
        · rw [if_neg q37] at h
          refine z_iconst dX12_follows_131 cI_1 ?_
          refine z_goto (tgt := 136) dX12_follows_132 (by decide) ?_
          exact z_mask [true, true, true, true, false, false] rfl (tX12_follows_b136 T k0 x1 x2 x3 1 (e33.1 k0 51) k0 S36 h0 h0 r h K1 K2_0)
set_option maxHeartbeats 4000000 in
set_option maxRecDepth 100000 in
theorem tX12_follows_l27 (T : zT) (k0 : Nat) (x1 : Int32) (x2 : Int32) (h0 : iX12 T k0) {g : zG} {v : Option Value} {S' : zS} : ∀ (n : Nat) (a : (Int32 × zS)) (e : zS), lpn (fun a => fX12_follows_l27 T k0 x1 x2 a.1 a.2) n a = some e → (∀ e1 : zS, e = e1 → zg g 6 mX12_follows T 146 [none, none, none, none, none, none] [] T e1 v T S') → zg g 6 mX12_follows T 27 [some (.ref k0), some (.int x1), some (.int x2), some (.int a.1), none, none] [] T a.2 v T S' := by
  intro n
  induction n with
  | zero =>
    intro a e h
    cases h
  | succ n ih =>
    intro a e h k0_
    rcases lpn_succ h with ⟨a1, ha_, hb_⟩ | ha_
    · exact tX12_follows_l27b T k0 x1 x2 a.1 a.2 h0 _ ha_ (fun a2 q => by cases q; exact ih a1 e hb_ k0_) (fun e1 q => by cases q)
    · exact tX12_follows_l27b T k0 x1 x2 a.1 a.2 h0 _ ha_ (fun a2 q => by cases q) (fun e1 q => by cases q; exact k0_ _ rfl)
set_option maxHeartbeats 4000000 in
set_option maxRecDepth 100000 in
theorem tX12_follows (T : zT) (k0 : Nat) (x1 : Int32) (x2 : Int32) (S : zS) (h0 : iX12 T k0) (r : Unit × zS) (h : fX12_follows T k0 x1 x2 S = some r) : zGM 6 mX12_follows [.ref k0, .int x1, .int x2] T S none T r.2 := by
  refine zGM_of zpnX12 rfl (Nat.le_of_ble_eq_true rfl) (fun g => ?_)
  show zg g 6 mX12_follows T 0 [some (.ref k0), some (.int x1), some (.int x2), none, none, none] [] T S none T r.2
  unfold fX12_follows at h
  refine z_aload_n dX12_follows_0 rfl ?_
  obtain ⟨r1, S3, hc2, h⟩ := zb_elim h
  refine z_callV (As := []) zcX12 zkX12_437 ziX12_begins zqX12_begins h0.1 (tX12_begins T k0 S h0 (r1, S3) hc2) rfl rfl (Nat.le_of_ble_eq_true rfl) (by decide) ⟨Nat.le_refl _, Nat.le_refl _⟩ ⟨Nat.le_refl _, Nat.le_refl _⟩ dX12_follows_1 ?_
  refine z_iconst dX12_follows_4 cI_0 ?_
  refine z_istore_n dX12_follows_5 rfl (by decide) rfl ?_
  obtain ⟨e8, hl44, h⟩ := zb1_elim h
  obtain ⟨nf45, hl44⟩ := lp_some hl44
  refine z_mask [true, true, true, true, false, false] rfl (tX12_follows_l6 T k0 x1 x2 h0 nf45 (0, S3) e8 hl44 (fun e_ q => ?_))
  · cases q
    refine z_iconst dX12_follows_25 cI_0 ?_
    refine z_istore_n dX12_follows_26 rfl (by decide) rfl ?_
    obtain ⟨e41, hl42, h⟩ := zb1_elim h
    obtain ⟨nf43, hl42⟩ := lp_some hl42
    refine z_mask [true, true, true, true, false, false] rfl (tX12_follows_l27 T k0 x1 x2 h0 nf43 (0, e8) e41 hl42 (fun e_ q => ?_))
    · cases q
      cases h
      exact z_vret rfl dX12_follows_146
/-! X12_sum -/
noncomputable def fX12_sum_b43 (T : zT) (k0 : Nat) (s0 : Int32) (S : zS) : Option (zS ⊕ zS) :=
  zlet (zI S k0 2 ((S.1 k0 2) + 1)) fun S11 => zb (fX12_term T k0 S11) fun _ S14 => zb (fX12_entry T k0 s0 0 S14) fun _ S17 => some (.inl S17)
noncomputable def fX12_sum_b29 (T : zT) (k0 : Nat) (S : zS) : Option (zS ⊕ zS) :=
  zb1 (fX12_sign T k0 S) fun r8 => if r8 = 43 then fX12_sum_b43 T k0 2 S else fX12_sum_b43 T k0 3 S
noncomputable def fX12_sum_l4 (T : zT) (k0 : Nat)  (S : zS) : Option (zS ⊕ zS) :=
  if (S.1 k0 3) = 0 then zb1 (fX12_sign T k0 S) fun r5 => if r5 = 43 then fX12_sum_b29 T k0 S else zb1 (fX12_sign T k0 S) fun r18 => if r18 = 45 then fX12_sum_b29 T k0 S else some (.inr S) else some (.inr S)
noncomputable def fX12_sum_b67 (T : zT)  (S : zS) : Option (Unit × zS) :=
  some ((), S)
noncomputable def fX12_sum (T : zT) (k0 : Nat) (S : zS) : Option (Unit × zS) :=
  zb (fX12_term T k0 S) fun _ S3 => zb1 (lp (fun a => fX12_sum_l4 T k0 a) S3) fun e21 => fX12_sum_b67 T  e21
set_option maxHeartbeats 4000000 in
set_option maxRecDepth 100000 in
theorem tX12_sum_b43 (T : zT) (k0 : Nat) (s0 : Int32) (S : zS) (h0 : iX12 T k0) {g : zG} {v : Option Value} {S' : zS} (r : (zS ⊕ zS)) (h : fX12_sum_b43 T k0 s0 S = some r) (K1 : ∀ a : zS, r = .inl a → zg g 7 mX12_sum T 4 [some (.ref k0), none] [] T a v T S') (K2_0 : ∀ e : zS, r = .inr e → zg g 7 mX12_sum T 67 [none, none] [] T e v T S') : zg g 7 mX12_sum T 43 [some (.ref k0), none] [.int s0] T S v T S' := by
  unfold fX12_sum_b43 at h
  refine z_istore_n dX12_sum_43 rfl (by decide) rfl ?_
  refine z_aload_n dX12_sum_44 rfl ?_
  refine z_dup dX12_sum_45 rfl ?_
  refine z_gI (zF.x zfX12_190) h0.1 dX12_sum_46 ?_
  refine z_iconst dX12_sum_49 cI_1 ?_
  refine z_iadd dX12_sum_50 rfl ?_
  refine z_putI zfX12_190 h0.1 dX12_sum_51 ?_
  obtain ⟨S11, eS11, h⟩ := zlet_elim h
  refine z_tS eS11 ?_
  refine z_aload_n dX12_sum_54 rfl ?_
  obtain ⟨r12, S14, hc13, h⟩ := zb_elim h
  refine z_callV (As := []) zcX12 zkX12_254 ziX12_term zqX12_term h0.1 (tX12_term T k0 S11 h0 (r12, S14) hc13) rfl rfl (Nat.le_of_ble_eq_true rfl) (by decide) ⟨Nat.le_refl _, Nat.le_refl _⟩ ⟨Nat.le_refl _, Nat.le_refl _⟩ dX12_sum_55 ?_
  refine z_aload_n dX12_sum_58 rfl ?_
  refine z_iload_n dX12_sum_59 rfl ?_
  refine z_iconst dX12_sum_60 cI_0 ?_
  obtain ⟨r15, S17, hc16, h⟩ := zb_elim h
  refine z_callV (As := [.int s0, .int 0]) zcX12 zkX12_242 ziX12_entry zqX12_entry h0.1 (tX12_entry T k0 s0 0 S14 h0 (r15, S17) hc16) rfl rfl (Nat.le_of_ble_eq_true rfl) (by decide) ⟨Nat.le_refl _, Nat.le_refl _⟩ ⟨Nat.le_refl _, Nat.le_refl _⟩ dX12_sum_61 ?_
  refine z_goto (tgt := 4) dX12_sum_64 (by decide) ?_
  cases h
  exact z_mask [true, false] rfl (K1 _ rfl)
set_option maxHeartbeats 4000000 in
set_option maxRecDepth 100000 in
theorem tX12_sum_b29 (T : zT) (k0 : Nat) (S : zS) (h0 : iX12 T k0) {g : zG} {v : Option Value} {S' : zS} (r : (zS ⊕ zS)) (h : fX12_sum_b29 T k0 S = some r) (K1 : ∀ a : zS, r = .inl a → zg g 7 mX12_sum T 4 [some (.ref k0), none] [] T a v T S') (K2_0 : ∀ e : zS, r = .inr e → zg g 7 mX12_sum T 67 [none, none] [] T e v T S') : zg g 7 mX12_sum T 29 [some (.ref k0), none] [] T S v T S' := by
  unfold fX12_sum_b29 at h
  refine z_aload_n dX12_sum_29 rfl ?_
  obtain ⟨r8, hc9, h⟩ := zb1_elim h
  refine z_callV (As := []) zcX12 zkX12_193 ziX12_sign zqX12_sign h0.1 (tX12_sign T k0 S h0 r8 hc9) rfl rfl (Nat.le_of_ble_eq_true rfl) (by decide) ⟨Nat.le_refl _, Nat.le_refl _⟩ ⟨Nat.le_refl _, Nat.le_refl _⟩ dX12_sum_30 ?_
  refine z_bipush dX12_sum_33 cB_43 ?_
  refine z_icmp_ne (tgt := 42) dX12_sum_35 (by decide) (fun q10 => ?_) (fun q10 => ?_)
  · rw [if_neg q10] at h
    refine z_iconst dX12_sum_42 cI_3 ?_
    exact z_mask [true, false] rfl (tX12_sum_b43 T k0 3 S h0 r h K1 K2_0)
  · rw [if_pos q10] at h
    refine z_iconst dX12_sum_38 cI_2 ?_
    refine z_goto (tgt := 43) dX12_sum_39 (by decide) ?_
    exact z_mask [true, false] rfl (tX12_sum_b43 T k0 2 S h0 r h K1 K2_0)
set_option maxHeartbeats 4000000 in
set_option maxRecDepth 100000 in
theorem tX12_sum_l4b (T : zT) (k0 : Nat)  (S : zS) (h0 : iX12 T k0) {g : zG} {v : Option Value} {S' : zS} (r : zS ⊕ zS) (h : fX12_sum_l4 T k0  S = some r) (K1 : ∀ a : zS, r = .inl a → zg g 7 mX12_sum T 4 [some (.ref k0), none] [] T a v T S') (K2_0 : ∀ e : zS, r = .inr e → zg g 7 mX12_sum T 67 [none, none] [] T e v T S') : zg g 7 mX12_sum T 4 [some (.ref k0), none] [] T S v T S' := by
  unfold fX12_sum_l4 at h
  refine z_aload_n dX12_sum_4 rfl ?_
  refine z_gI (zF.x zfX12_187) h0.1 dX12_sum_5 ?_
  refine z_if_ne (tgt := 67) dX12_sum_8 (by decide) (fun q4 => ?_) (fun q4 => ?_)
  · rw [if_neg q4] at h
    cases h
    exact z_mask [false, false] rfl (K2_0 _ rfl)
  · rw [if_pos q4] at h
    refine z_aload_n dX12_sum_11 rfl ?_
    obtain ⟨r5, hc6, h⟩ := zb1_elim h
    refine z_callV (As := []) zcX12 zkX12_193 ziX12_sign zqX12_sign h0.1 (tX12_sign T k0 S h0 r5 hc6) rfl rfl (Nat.le_of_ble_eq_true rfl) (by decide) ⟨Nat.le_refl _, Nat.le_refl _⟩ ⟨Nat.le_refl _, Nat.le_refl _⟩ dX12_sum_12 ?_
    refine z_bipush dX12_sum_15 cB_43 ?_
    refine z_icmp_eq (tgt := 29) dX12_sum_17 (by decide) (fun q7 => ?_) (fun q7 => ?_)
    · rw [if_pos q7] at h
      exact z_mask [true, false] rfl (tX12_sum_b29 T k0 S h0 r h K1 K2_0)
    · rw [if_neg q7] at h
      refine z_aload_n dX12_sum_20 rfl ?_
      obtain ⟨r18, hc19, h⟩ := zb1_elim h
      refine z_callV (As := []) zcX12 zkX12_193 ziX12_sign zqX12_sign h0.1 (tX12_sign T k0 S h0 r18 hc19) rfl rfl (Nat.le_of_ble_eq_true rfl) (by decide) ⟨Nat.le_refl _, Nat.le_refl _⟩ ⟨Nat.le_refl _, Nat.le_refl _⟩ dX12_sum_21 ?_
      refine z_bipush dX12_sum_24 cB_45 ?_
      refine z_icmp_ne (tgt := 67) dX12_sum_26 (by decide) (fun q20 => ?_) (fun q20 => ?_)
      · rw [if_neg q20] at h
        cases h
        exact z_mask [false, false] rfl (K2_0 _ rfl)
      · rw [if_pos q20] at h
        exact z_mask [true, false] rfl (tX12_sum_b29 T k0 S h0 r h K1 K2_0)
set_option maxHeartbeats 4000000 in
set_option maxRecDepth 100000 in
theorem tX12_sum_l4 (T : zT) (k0 : Nat) (h0 : iX12 T k0) {g : zG} {v : Option Value} {S' : zS} : ∀ (n : Nat) (a : zS) (e : zS), lpn (fun a => fX12_sum_l4 T k0 a) n a = some e → (∀ e1 : zS, e = e1 → zg g 7 mX12_sum T 67 [none, none] [] T e1 v T S') → zg g 7 mX12_sum T 4 [some (.ref k0), none] [] T a v T S' := by
  intro n
  induction n with
  | zero =>
    intro a e h
    cases h
  | succ n ih =>
    intro a e h k0_
    rcases lpn_succ h with ⟨a1, ha_, hb_⟩ | ha_
    · exact tX12_sum_l4b T k0 a h0 _ ha_ (fun a2 q => by cases q; exact ih a1 e hb_ k0_) (fun e1 q => by cases q)
    · exact tX12_sum_l4b T k0 a h0 _ ha_ (fun a2 q => by cases q) (fun e1 q => by cases q; exact k0_ _ rfl)
set_option maxHeartbeats 4000000 in
set_option maxRecDepth 100000 in
theorem tX12_sum_b67 (T : zT)  (S : zS)  {g : zG} (r : (Unit × zS)) (h : fX12_sum_b67 T  S = some r)  : zg g 7 mX12_sum T 67 [none, none] [] T S none T r.2 := by
  unfold fX12_sum_b67 at h
  cases h
  exact z_vret rfl dX12_sum_67
set_option maxHeartbeats 4000000 in
set_option maxRecDepth 100000 in
theorem tX12_sum (T : zT) (k0 : Nat) (S : zS) (h0 : iX12 T k0) (r : Unit × zS) (h : fX12_sum T k0 S = some r) : zGM 7 mX12_sum [.ref k0] T S none T r.2 := by
  refine zGM_of zpnX12 rfl (Nat.le_of_ble_eq_true rfl) (fun g => ?_)
  show zg g 7 mX12_sum T 0 [some (.ref k0), none] [] T S none T r.2
  unfold fX12_sum at h
  refine z_aload_n dX12_sum_0 rfl ?_
  obtain ⟨r1, S3, hc2, h⟩ := zb_elim h
  refine z_callV (As := []) zcX12 zkX12_254 ziX12_term zqX12_term h0.1 (tX12_term T k0 S h0 (r1, S3) hc2) rfl rfl (Nat.le_of_ble_eq_true rfl) (by decide) ⟨Nat.le_refl _, Nat.le_refl _⟩ ⟨Nat.le_refl _, Nat.le_refl _⟩ dX12_sum_1 ?_
  obtain ⟨e21, hl22, h⟩ := zb1_elim h
  obtain ⟨nf23, hl22⟩ := lp_some hl22
  refine z_mask [true, false] rfl (tX12_sum_l4 T k0 h0 nf23 S3 e21 hl22 (fun e_ q => ?_))
  · cases q
    exact z_mask [false, false] rfl (tX12_sum_b67 T  e21  r h)
/-! X12_best -/
noncomputable def fX12_best_b45 (T : zT) (s0 : Int32) (s1 : Nat) (S : zS) : Option (Int32 × zS) :=
  zb1 (fX12_states T s1 s0 S) fun r12 => some (r12, S)
noncomputable def fX12_best_b34 (T : zT) (k0 : Nat) (x1 : Int32) (S : zS) : Option (Int32 × zS) :=
  if x1 = 4 then fX12_best_b45 T 1 k0 S else fX12_best_b45 T 0 k0 S
noncomputable def fX12_best_b100 (T : zT) (s0 : Int32) (S : zS) : Option (Int32 × zS) :=
  some (s0, S)
noncomputable def fX12_best (T : zT) (k0 : Nat) (x1 : Int32) (S : zS) : Option (Int32 × zS) :=
  zb1 (fX12_in T ((x1 : Int32).toInt64) 0 5 S) fun r1 => if r1 = 0 then some ((-3), S) else zb (fX12_asItIs T k0 S) fun _ S6 => zb (fX12_mostCoin T k0 S6) fun r7 S9 => if x1 = 3 then fX12_best_b34 T k0 x1 S9 else if x1 = 4 then fX12_best_b34 T k0 x1 S9 else if r7 = (-1) then some ((-2), S9) else if x1 = 0 then fX12_best_b100 T r7 S9 else if x1 = 1 then zb1 (fX12_atEnd T k0 S9) fun r25 => fX12_best_b100 T r25 S9 else if x1 = 2 then zb1 (fX12_richest T k0 S9) fun r23 => fX12_best_b100 T r23 S9 else zb1 (fX12_all T k0 S9) fun r19 => zb1 (fX12_atEnd T k0 S9) fun r21 => fX12_best_b100 T (r19 &&& (r21 ^^^ (-1))) S9
set_option maxHeartbeats 4000000 in
set_option maxRecDepth 100000 in
theorem tX12_best_b45 (T : zT) (s0 : Int32) (s1 : Nat) (S : zS) (g1 : iX12 T s1) {g : zG} (r : (Int32 × zS)) (h : fX12_best_b45 T s0 s1 S = some r)  : zg g 7 mX12_best T 45 [none, none, none] [.int s0, .ref s1] T S (some (.int r.1)) T r.2 := by
  unfold fX12_best_b45 at h
  obtain ⟨r12, hc13, h⟩ := zb1_elim h
  refine z_callV (As := [.int s0]) zcX12 zkX12_505 ziX12_states zqX12_states g1.1 (tX12_states T s1 s0 S g1 r12 hc13) rfl rfl (Nat.le_of_ble_eq_true rfl) (by decide) ⟨Nat.le_refl _, Nat.le_refl _⟩ ⟨Nat.le_refl _, Nat.le_refl _⟩ dX12_best_45 ?_
  cases h
  exact z_iret rfl dX12_best_48
set_option maxHeartbeats 4000000 in
set_option maxRecDepth 100000 in
theorem tX12_best_b34 (T : zT) (k0 : Nat) (x1 : Int32) (S : zS) (h0 : iX12 T k0) {g : zG} (r : (Int32 × zS)) (h : fX12_best_b34 T k0 x1 S = some r)  : zg g 7 mX12_best T 34 [some (.ref k0), some (.int x1), none] [] T S (some (.int r.1)) T r.2 := by
  unfold fX12_best_b34 at h
  refine z_aload_n dX12_best_34 rfl ?_
  refine z_iload_n dX12_best_35 rfl ?_
  refine z_iconst dX12_best_36 cI_4 ?_
  refine z_icmp_ne (tgt := 44) dX12_best_37 (by decide) (fun q11 => ?_) (fun q11 => ?_)
  · rw [if_neg q11] at h
    refine z_iconst dX12_best_44 cI_0 ?_
    exact z_mask [false, false, false] rfl (tX12_best_b45 T 0 k0 S h0 r h)
  · rw [if_pos q11] at h
    refine z_iconst dX12_best_40 cI_1 ?_
    refine z_goto (tgt := 45) dX12_best_41 (by decide) ?_
    exact z_mask [false, false, false] rfl (tX12_best_b45 T 1 k0 S h0 r h)
set_option maxHeartbeats 4000000 in
set_option maxRecDepth 100000 in
theorem tX12_best_b100 (T : zT) (s0 : Int32) (S : zS)  {g : zG} (r : (Int32 × zS)) (h : fX12_best_b100 T s0 S = some r)  : zg g 7 mX12_best T 100 [none, none, none] [.int s0] T S (some (.int r.1)) T r.2 := by
  unfold fX12_best_b100 at h
  cases h
  exact z_iret rfl dX12_best_100
set_option maxHeartbeats 4000000 in
set_option maxRecDepth 100000 in
theorem tX12_best (T : zT) (k0 : Nat) (x1 : Int32) (S : zS) (h0 : iX12 T k0) (r : Int32 × zS) (h : fX12_best T k0 x1 S = some r) : zGM 7 mX12_best [.ref k0, .int x1] T S (some (.int r.1)) T r.2 := by
  refine zGM_of zpnX12 rfl (Nat.le_of_ble_eq_true rfl) (fun g => ?_)
  show zg g 7 mX12_best T 0 [some (.ref k0), some (.int x1), none] [] T S (some (.int r.1)) T r.2
  unfold fX12_best at h
  refine z_iload_n dX12_best_0 rfl ?_
  refine z_i2l dX12_best_1 rfl ?_
  refine z_lconst (r := 0) dX12_best_2 rfl ?_
  refine z_ldc2 znX12_500 dX12_best_3 ?_
  obtain ⟨r1, hc2, h⟩ := zb1_elim h
  refine z_callS (As := [.long ((x1 : Int32).toInt64), .long 0, .long 5]) zkX12_201 zsX12_in (tX12_in T ((x1 : Int32).toInt64) 0 5 S  r1 hc2) rfl rfl (Nat.le_of_ble_eq_true rfl) (by decide) ⟨Nat.le_refl _, Nat.le_refl _⟩ ⟨Nat.le_refl _, Nat.le_refl _⟩ dX12_best_6 ?_
  refine z_if_ne (tgt := 15) dX12_best_9 (by decide) (fun q3 => ?_) (fun q3 => ?_)
  · rw [if_neg q3] at h
    refine z_aload_n dX12_best_15 rfl ?_
    obtain ⟨r4, S6, hc5, h⟩ := zb_elim h
    refine z_callV (As := []) zcX12 zkX12_497 ziX12_asItIs zqX12_asItIs h0.1 (tX12_asItIs T k0 S h0 (r4, S6) hc5) rfl rfl (Nat.le_of_ble_eq_true rfl) (by decide) ⟨Nat.le_refl _, Nat.le_refl _⟩ ⟨Nat.le_refl _, Nat.le_refl _⟩ dX12_best_16 ?_
    refine z_aload_n dX12_best_19 rfl ?_
    obtain ⟨r7, S9, hc8, h⟩ := zb_elim h
    refine z_callV (As := []) zcX12 zkX12_502 ziX12_mostCoin zqX12_mostCoin h0.1 (tX12_mostCoin T k0 S6 h0 (r7, S9) hc8) rfl rfl (Nat.le_of_ble_eq_true rfl) (by decide) ⟨Nat.le_refl _, Nat.le_refl _⟩ ⟨Nat.le_refl _, Nat.le_refl _⟩ dX12_best_20 ?_
    refine z_istore_n dX12_best_23 rfl (by decide) rfl ?_
    refine z_iload_n dX12_best_24 rfl ?_
    refine z_iconst dX12_best_25 cI_3 ?_
    refine z_icmp_eq (tgt := 34) dX12_best_26 (by decide) (fun q10 => ?_) (fun q10 => ?_)
    · rw [if_pos q10] at h
      exact z_mask [true, true, false] rfl (tX12_best_b34 T k0 x1 S9 h0 r h)
    · rw [if_neg q10] at h
      refine z_iload_n dX12_best_29 rfl ?_
      refine z_iconst dX12_best_30 cI_4 ?_
      refine z_icmp_ne (tgt := 49) dX12_best_31 (by decide) (fun q14 => ?_) (fun q14 => ?_)
      · rw [if_neg q14] at h
        refine z_iload_n dX12_best_49 rfl ?_
        refine z_iconst dX12_best_50 cI_m1 ?_
        refine z_icmp_ne (tgt := 57) dX12_best_51 (by decide) (fun q15 => ?_) (fun q15 => ?_)
        · rw [if_neg q15] at h
          refine z_iload_n dX12_best_57 rfl ?_
          refine z_if_ne (tgt := 65) dX12_best_58 (by decide) (fun q16 => ?_) (fun q16 => ?_)
          · rw [if_neg q16] at h
            refine z_iload_n dX12_best_65 rfl ?_
            refine z_iconst dX12_best_66 cI_1 ?_
            refine z_icmp_ne (tgt := 77) dX12_best_67 (by decide) (fun q17 => ?_) (fun q17 => ?_)
            · rw [if_neg q17] at h
              refine z_iload_n dX12_best_77 rfl ?_
              refine z_iconst dX12_best_78 cI_2 ?_
              refine z_icmp_ne (tgt := 89) dX12_best_79 (by decide) (fun q18 => ?_) (fun q18 => ?_)
              · rw [if_neg q18] at h
                refine z_aload_n dX12_best_89 rfl ?_
                obtain ⟨r19, hc20, h⟩ := zb1_elim h
                refine z_callV (As := []) zcX12 zkX12_354 ziX12_all zqX12_all h0.1 (tX12_all T k0 S9 h0 r19 hc20) rfl rfl (Nat.le_of_ble_eq_true rfl) (by decide) ⟨Nat.le_refl _, Nat.le_refl _⟩ ⟨Nat.le_refl _, Nat.le_refl _⟩ dX12_best_90 ?_
                refine z_aload_n dX12_best_93 rfl ?_
                obtain ⟨r21, hc22, h⟩ := zb1_elim h
                refine z_callV (As := []) zcX12 zkX12_494 ziX12_atEnd zqX12_atEnd h0.1 (tX12_atEnd T k0 S9 h0 r21 hc22) rfl rfl (Nat.le_of_ble_eq_true rfl) (by decide) ⟨Nat.le_refl _, Nat.le_refl _⟩ ⟨Nat.le_refl _, Nat.le_refl _⟩ dX12_best_94 ?_
                refine z_iconst dX12_best_97 cI_m1 ?_
                refine z_ixor dX12_best_98 rfl ?_
                refine z_iand dX12_best_99 rfl ?_
                exact z_mask [false, false, false] rfl (tX12_best_b100 T (r19 &&& (r21 ^^^ (-1))) S9  r h)
              · rw [if_pos q18] at h
                refine z_aload_n dX12_best_82 rfl ?_
                obtain ⟨r23, hc24, h⟩ := zb1_elim h
                refine z_callV (As := []) zcX12 zkX12_509 ziX12_richest zqX12_richest h0.1 (tX12_richest T k0 S9 h0 r23 hc24) rfl rfl (Nat.le_of_ble_eq_true rfl) (by decide) ⟨Nat.le_refl _, Nat.le_refl _⟩ ⟨Nat.le_refl _, Nat.le_refl _⟩ dX12_best_83 ?_
                refine z_goto (tgt := 100) dX12_best_86 (by decide) ?_
                exact z_mask [false, false, false] rfl (tX12_best_b100 T r23 S9  r h)
            · rw [if_pos q17] at h
              refine z_aload_n dX12_best_70 rfl ?_
              obtain ⟨r25, hc26, h⟩ := zb1_elim h
              refine z_callV (As := []) zcX12 zkX12_494 ziX12_atEnd zqX12_atEnd h0.1 (tX12_atEnd T k0 S9 h0 r25 hc26) rfl rfl (Nat.le_of_ble_eq_true rfl) (by decide) ⟨Nat.le_refl _, Nat.le_refl _⟩ ⟨Nat.le_refl _, Nat.le_refl _⟩ dX12_best_71 ?_
              refine z_goto (tgt := 100) dX12_best_74 (by decide) ?_
              exact z_mask [false, false, false] rfl (tX12_best_b100 T r25 S9  r h)
          · rw [if_pos q16] at h
            refine z_iload_n dX12_best_61 rfl ?_
            refine z_goto (tgt := 100) dX12_best_62 (by decide) ?_
            exact z_mask [false, false, false] rfl (tX12_best_b100 T r7 S9  r h)
        · rw [if_pos q15] at h
          refine z_bipush dX12_best_54 cB_m2 ?_
          cases h
          exact z_iret rfl dX12_best_56
      · rw [if_pos q14] at h
        exact z_mask [true, true, false] rfl (tX12_best_b34 T k0 x1 S9 h0 r h)
  · rw [if_pos q3] at h
    refine z_bipush dX12_best_12 cB_m3 ?_
    cases h
    exact z_iret rfl dX12_best_14
/-! X12_fetched -/
noncomputable def fX12_fetched_l32 (T : zT) (k0 : Nat) (x1 : Int32) (S : zS) (x2 : Int32) : Option (Int32 ⊕ (Unit ⊕ Int32)) :=
  zgd (zin 0 2) (if (S.1 (zr T k0 33) (0 : Int32).toNatClampNeg) ≤ x2 then some (.inr (.inl ())) else zgd (zin x2 60) (if (((S.1 (zr T k0 60) (x2 : Int32).toNatClampNeg) >>> (x1 &&& 31)) &&& 1) = 1 then some (.inr (.inr x2)) else zlet (x2 + 1) fun u18 => some (.inl u18)))
noncomputable def fX12_fetched (T : zT) (k0 : Nat) (x1 : Int32) (S : zS) : Option (Int32 × zS) :=
  zb1 (fX12_has T k0 x1 S) fun r1 => if r1 = 0 then some ((-3), S) else zb (fX12_asItIs T k0 S) fun _ S6 => zb (fX12_mostCoin T k0 S6) fun r7 S9 => if r7 = (-1) then some ((-2), S9) else zb (fX12_goesBack T k0 S9) fun _ S13 => zb1 (lp (fun a => fX12_fetched_l32 T k0 x1 S13 a) 0) fun e19 => zsm e19 (fun e19_0 => some ((-1), S13)) (fun e19_1 => some (e19_1, S13))
set_option maxHeartbeats 4000000 in
set_option maxRecDepth 100000 in
theorem tX12_fetched_l32b (T : zT) (k0 : Nat) (x1 : Int32) (S : zS) (x2 : Int32) (h0 : iX12 T k0) {g : zG} {v : Option Value} {S' : zS} (r : Int32 ⊕ (Unit ⊕ Int32)) (h : fX12_fetched_l32 T k0 x1 S x2 = some r) (K1 : ∀ a : Int32, r = .inl a → zg g 7 mX12_fetched T 32 [some (.ref k0), some (.int x1), some (.int a)] [] T S v T S') (K2_0 : ∀ e : Unit, r = .inr (.inl e) → zg g 7 mX12_fetched T 64 [none, none, none] [] T S v T S') (K2_1 : ∀ e : Int32, r = .inr (.inr e) → zg g 7 mX12_fetched T 56 [none, none, some (.int e)] [] T S v T S') : zg g 7 mX12_fetched T 32 [some (.ref k0), some (.int x1), some (.int x2)] [] T S v T S' := by
  unfold fX12_fetched_l32 at h
  refine z_iload_n dX12_fetched_32 rfl ?_
  refine z_aload_n dX12_fetched_33 rfl ?_
  refine z_gA (zF.x zfX12_77) h0.1 dX12_fetched_34 ?_
  refine z_iconst dX12_fetched_37 cI_0 ?_
  obtain ⟨q14, h⟩ := zgd_elim h
  refine z_iald h0.2.2.2.2.2.2.2.2.2.2.2.2.2.2.2.2.2.2.2.2.2.2.2.1 (zin_ok q14) dX12_fetched_38 ?_
  refine z_icmp_ge (tgt := 64) dX12_fetched_39 (by decide) (fun q15 => ?_) (fun q15 => ?_)
  · rw [if_pos q15] at h
    cases h
    exact z_mask [false, false, false] rfl (K2_0 _ rfl)
  · rw [if_neg q15] at h
    refine z_aload_n dX12_fetched_42 rfl ?_
    refine z_gA (zF.x zfX12_121) h0.1 dX12_fetched_43 ?_
    refine z_iload_n dX12_fetched_46 rfl ?_
    obtain ⟨q16, h⟩ := zgd_elim h
    refine z_iald h0.2.2.2.2.2.2.2.2.2.2.2.2.2.2.2.2.2.2.2.2.2.2.2.2.2.2.2.2.2.2.2.2.2.2.2.2.2.1 (zin_ok q16) dX12_fetched_47 ?_
    refine z_iload_n dX12_fetched_48 rfl ?_
    refine z_ishr dX12_fetched_49 rfl ?_
    refine z_iconst dX12_fetched_50 cI_1 ?_
    refine z_iand dX12_fetched_51 rfl ?_
    refine z_iconst dX12_fetched_52 cI_1 ?_
    refine z_icmp_ne (tgt := 58) dX12_fetched_53 (by decide) (fun q17 => ?_) (fun q17 => ?_)
    · rw [if_neg q17] at h
      obtain ⟨u18, eu18, h⟩ := zlet_elim h
      refine z_iinc (r := u18) dX12_fetched_58 rfl (by rw [eu18, cI_1]) rfl (by decide) rfl ?_
      refine z_goto (tgt := 32) dX12_fetched_61 (by decide) ?_
      cases h
      exact z_mask [true, true, true] rfl (K1 _ rfl)
    · rw [if_pos q17] at h
      cases h
      exact z_mask [false, false, true] rfl (K2_1 _ rfl)
set_option maxHeartbeats 4000000 in
set_option maxRecDepth 100000 in
theorem tX12_fetched_l32 (T : zT) (k0 : Nat) (x1 : Int32) (S : zS) (h0 : iX12 T k0) {g : zG} {v : Option Value} {S' : zS} : ∀ (n : Nat) (a : Int32) (e : (Unit ⊕ Int32)), lpn (fun a => fX12_fetched_l32 T k0 x1 S a) n a = some e → (∀ e1 : Unit, e = (.inl e1) → zg g 7 mX12_fetched T 64 [none, none, none] [] T S v T S') → (∀ e1 : Int32, e = (.inr e1) → zg g 7 mX12_fetched T 56 [none, none, some (.int e1)] [] T S v T S') → zg g 7 mX12_fetched T 32 [some (.ref k0), some (.int x1), some (.int a)] [] T S v T S' := by
  intro n
  induction n with
  | zero =>
    intro a e h
    cases h
  | succ n ih =>
    intro a e h k0_ k1_
    rcases lpn_succ h with ⟨a1, ha_, hb_⟩ | ha_
    · exact tX12_fetched_l32b T k0 x1 S a h0 _ ha_ (fun a2 q => by cases q; exact ih a1 e hb_ k0_ k1_) (fun e1 q => by cases q) (fun e1 q => by cases q)
    · exact tX12_fetched_l32b T k0 x1 S a h0 _ ha_ (fun a2 q => by cases q) (fun e1 q => by cases q; exact k0_ _ rfl) (fun e1 q => by cases q; exact k1_ _ rfl)
set_option maxHeartbeats 4000000 in
set_option maxRecDepth 100000 in
theorem tX12_fetched (T : zT) (k0 : Nat) (x1 : Int32) (S : zS) (h0 : iX12 T k0) (r : Int32 × zS) (h : fX12_fetched T k0 x1 S = some r) : zGM 7 mX12_fetched [.ref k0, .int x1] T S (some (.int r.1)) T r.2 := by
  refine zGM_of zpnX12 rfl (Nat.le_of_ble_eq_true rfl) (fun g => ?_)
  show zg g 7 mX12_fetched T 0 [some (.ref k0), some (.int x1), none] [] T S (some (.int r.1)) T r.2
  unfold fX12_fetched at h
  refine z_aload_n dX12_fetched_0 rfl ?_
  refine z_iload_n dX12_fetched_1 rfl ?_
  obtain ⟨r1, hc2, h⟩ := zb1_elim h
  refine z_callV (As := [.int x1]) zcX12 zkX12_375 ziX12_has zqX12_has h0.1 (tX12_has T k0 x1 S h0 r1 hc2) rfl rfl (Nat.le_of_ble_eq_true rfl) (by decide) ⟨Nat.le_refl _, Nat.le_refl _⟩ ⟨Nat.le_refl _, Nat.le_refl _⟩ dX12_fetched_2 ?_
  refine z_if_ne (tgt := 11) dX12_fetched_5 (by decide) (fun q3 => ?_) (fun q3 => ?_)
  · rw [if_neg q3] at h
    refine z_aload_n dX12_fetched_11 rfl ?_
    obtain ⟨r4, S6, hc5, h⟩ := zb_elim h
    refine z_callV (As := []) zcX12 zkX12_497 ziX12_asItIs zqX12_asItIs h0.1 (tX12_asItIs T k0 S h0 (r4, S6) hc5) rfl rfl (Nat.le_of_ble_eq_true rfl) (by decide) ⟨Nat.le_refl _, Nat.le_refl _⟩ ⟨Nat.le_refl _, Nat.le_refl _⟩ dX12_fetched_12 ?_
    refine z_aload_n dX12_fetched_15 rfl ?_
    obtain ⟨r7, S9, hc8, h⟩ := zb_elim h
    refine z_callV (As := []) zcX12 zkX12_502 ziX12_mostCoin zqX12_mostCoin h0.1 (tX12_mostCoin T k0 S6 h0 (r7, S9) hc8) rfl rfl (Nat.le_of_ble_eq_true rfl) (by decide) ⟨Nat.le_refl _, Nat.le_refl _⟩ ⟨Nat.le_refl _, Nat.le_refl _⟩ dX12_fetched_16 ?_
    refine z_iconst dX12_fetched_19 cI_m1 ?_
    refine z_icmp_ne (tgt := 26) dX12_fetched_20 (by decide) (fun q10 => ?_) (fun q10 => ?_)
    · rw [if_neg q10] at h
      refine z_aload_n dX12_fetched_26 rfl ?_
      obtain ⟨r11, S13, hc12, h⟩ := zb_elim h
      refine z_callV (As := []) zcX12 zkX12_512 ziX12_goesBack zqX12_goesBack h0.1 (tX12_goesBack T k0 S9 h0 (r11, S13) hc12) rfl rfl (Nat.le_of_ble_eq_true rfl) (by decide) ⟨Nat.le_refl _, Nat.le_refl _⟩ ⟨Nat.le_refl _, Nat.le_refl _⟩ dX12_fetched_27 ?_
      refine z_iconst dX12_fetched_30 cI_0 ?_
      refine z_istore_n dX12_fetched_31 rfl (by decide) rfl ?_
      obtain ⟨e19, hl20, h⟩ := zb1_elim h
      obtain ⟨nf21, hl20⟩ := lp_some hl20
      refine z_mask [true, true, true] rfl (tX12_fetched_l32 T k0 x1 S13 h0 nf21 0 e19 hl20 (fun e19_0 q => ?_) (fun e19_1 q => ?_))
      · cases q
        replace h := zsm_l h
        refine z_iconst dX12_fetched_64 cI_m1 ?_
        cases h
        exact z_iret rfl dX12_fetched_65
      · cases q
        replace h := zsm_r h
        refine z_iload_n dX12_fetched_56 rfl ?_
        cases h
        exact z_iret rfl dX12_fetched_57
    · rw [if_pos q10] at h
      refine z_bipush dX12_fetched_23 cB_m2 ?_
      cases h
      exact z_iret rfl dX12_fetched_25
  · rw [if_pos q3] at h
    refine z_bipush dX12_fetched_8 cB_m3 ?_
    cases h
    exact z_iret rfl dX12_fetched_10
/-! X12_without -/
noncomputable def fX12_without (T : zT) (k0 : Nat) (x1 : Int32) (S : zS) : Option (Int32 × zS) :=
  zb (fX12_asItIs T k0 S) fun _ S3 => zlet (zI S3 k0 54 (1 <<< (x1 &&& 31))) fun S4 => zb (fX12_mostCoin T k0 S4) fun r5 S7 => some (r5, S7)
set_option maxHeartbeats 4000000 in
set_option maxRecDepth 100000 in
theorem tX12_without (T : zT) (k0 : Nat) (x1 : Int32) (S : zS) (h0 : iX12 T k0) (r : Int32 × zS) (h : fX12_without T k0 x1 S = some r) : zGM 7 mX12_without [.ref k0, .int x1] T S (some (.int r.1)) T r.2 := by
  refine zGM_of zpnX12 rfl (Nat.le_of_ble_eq_true rfl) (fun g => ?_)
  show zg g 7 mX12_without T 0 [some (.ref k0), some (.int x1)] [] T S (some (.int r.1)) T r.2
  unfold fX12_without at h
  refine z_aload_n dX12_without_0 rfl ?_
  obtain ⟨r1, S3, hc2, h⟩ := zb_elim h
  refine z_callV (As := []) zcX12 zkX12_497 ziX12_asItIs zqX12_asItIs h0.1 (tX12_asItIs T k0 S h0 (r1, S3) hc2) rfl rfl (Nat.le_of_ble_eq_true rfl) (by decide) ⟨Nat.le_refl _, Nat.le_refl _⟩ ⟨Nat.le_refl _, Nat.le_refl _⟩ dX12_without_1 ?_
  refine z_aload_n dX12_without_4 rfl ?_
  refine z_iconst dX12_without_5 cI_1 ?_
  refine z_iload_n dX12_without_6 rfl ?_
  refine z_ishl dX12_without_7 rfl ?_
  refine z_putI zfX12_461 h0.1 dX12_without_8 ?_
  obtain ⟨S4, eS4, h⟩ := zlet_elim h
  refine z_tS eS4 ?_
  refine z_aload_n dX12_without_11 rfl ?_
  obtain ⟨r5, S7, hc6, h⟩ := zb_elim h
  refine z_callV (As := []) zcX12 zkX12_502 ziX12_mostCoin zqX12_mostCoin h0.1 (tX12_mostCoin T k0 S4 h0 (r5, S7) hc6) rfl rfl (Nat.le_of_ble_eq_true rfl) (by decide) ⟨Nat.le_refl _, Nat.le_refl _⟩ ⟨Nat.le_refl _, Nat.le_refl _⟩ dX12_without_12 ?_
  cases h
  exact z_iret rfl dX12_without_15
/-! X12_asBest -/
noncomputable def fX12_asBest (T : zT) (k0 : Nat) (S : zS) : Option (Int32 × zS) :=
  zb (fX12_asItIs T k0 S) fun _ S3 => zb (fX12_mostCoin T k0 S3) fun r4 S6 => some (r4, S6)
set_option maxHeartbeats 4000000 in
set_option maxRecDepth 100000 in
theorem tX12_asBest (T : zT) (k0 : Nat) (S : zS) (h0 : iX12 T k0) (r : Int32 × zS) (h : fX12_asBest T k0 S = some r) : zGM 7 mX12_asBest [.ref k0] T S (some (.int r.1)) T r.2 := by
  refine zGM_of zpnX12 rfl (Nat.le_of_ble_eq_true rfl) (fun g => ?_)
  show zg g 7 mX12_asBest T 0 [some (.ref k0)] [] T S (some (.int r.1)) T r.2
  unfold fX12_asBest at h
  refine z_aload_n dX12_asBest_0 rfl ?_
  obtain ⟨r1, S3, hc2, h⟩ := zb_elim h
  refine z_callV (As := []) zcX12 zkX12_497 ziX12_asItIs zqX12_asItIs h0.1 (tX12_asItIs T k0 S h0 (r1, S3) hc2) rfl rfl (Nat.le_of_ble_eq_true rfl) (by decide) ⟨Nat.le_refl _, Nat.le_refl _⟩ ⟨Nat.le_refl _, Nat.le_refl _⟩ dX12_asBest_1 ?_
  refine z_aload_n dX12_asBest_4 rfl ?_
  obtain ⟨r4, S6, hc5, h⟩ := zb_elim h
  refine z_callV (As := []) zcX12 zkX12_502 ziX12_mostCoin zqX12_mostCoin h0.1 (tX12_mostCoin T k0 S3 h0 (r4, S6) hc5) rfl rfl (Nat.le_of_ble_eq_true rfl) (by decide) ⟨Nat.le_refl _, Nat.le_refl _⟩ ⟨Nat.le_refl _, Nat.le_refl _⟩ dX12_asBest_5 ?_
  cases h
  exact z_iret rfl dX12_asBest_8
