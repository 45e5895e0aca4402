/-! X5_countStates -/
noncomputable def fX5_countStates_b49 (T : zT) (k0 : Nat) (x1 : Int32) (S : zS) : Option ((Int32 × zS) ⊕ zS) :=
  zlet (x1 + 1) fun u5 => some (.inl (u5, S))
noncomputable def fX5_countStates_l2 (T : zT) (k0 : Nat) (x1 : Int32) (S : zS) : Option ((Int32 × zS) ⊕ zS) :=
  if (S.1 (zr T k0 0) 0) < x1 then some (.inr S) else if 256 ≤ x1 then some (.inr S) else zgd (zin x1 256) (if (S.1 (zr T k0 11) (x1 : Int32).toNatClampNeg) < 0 then fX5_countStates_b49 T k0 x1 S else zlet (zI S k0 5 ((S.1 k0 5) + 1)) fun S6 => zlet (zI S6 k0 6 ((S6.1 k0 6) ||| x1)) fun S7 => fX5_countStates_b49 T k0 x1 S7)
noncomputable def fX5_countStates_b55 (T : zT)  (S : zS) : Option (Unit × zS) :=
  some ((), S)
noncomputable def fX5_countStates (T : zT) (k0 : Nat) (S : zS) : Option (Unit × zS) :=
  zb1 (lp (fun a => fX5_countStates_l2 T k0 a.1 a.2) (0, S)) fun e8 => fX5_countStates_b55 T  e8
set_option maxHeartbeats 4000000 in
set_option maxRecDepth 100000 in
theorem tX5_countStates_b49 (T : zT) (k0 : Nat) (x1 : Int32) (S : zS) (h0 : iX5 T k0) {g : zG} {v : Option Value} {S' : zS} (r : ((Int32 × zS) ⊕ zS)) (h : fX5_countStates_b49 T k0 x1 S = some r) (K1 : ∀ a : (Int32 × zS), r = .inl a → zg g 0 mX5_countStates T 2 [some (.ref k0), some (.int a.1)] [] T a.2 v T S') (K2_0 : ∀ e : zS, r = .inr e → zg g 0 mX5_countStates T 55 [none, none] [] T e v T S') : zg g 0 mX5_countStates T 49 [some (.ref k0), some (.int x1)] [] T S v T S' := by
  unfold fX5_countStates_b49 at h
  obtain ⟨u5, eu5, h⟩ := zlet_elim h
  refine z_iinc (r := u5) dX5_countStates_49 rfl (by rw [eu5, cI_1]) rfl (by decide) rfl ?_
  refine z_goto (tgt := 2) dX5_countStates_52 (by decide) ?_
  cases h
  exact z_mask [true, true] rfl (K1 _ rfl)
set_option maxHeartbeats 4000000 in
set_option maxRecDepth 100000 in
theorem tX5_countStates_l2b (T : zT) (k0 : Nat) (x1 : Int32) (S : zS) (h0 : iX5 T k0) {g : zG} {v : Option Value} {S' : zS} (r : (Int32 × zS) ⊕ zS) (h : fX5_countStates_l2 T k0 x1 S = some r) (K1 : ∀ a : (Int32 × zS), r = .inl a → zg g 0 mX5_countStates T 2 [some (.ref k0), some (.int a.1)] [] T a.2 v T S') (K2_0 : ∀ e : zS, r = .inr e → zg g 0 mX5_countStates T 55 [none, none] [] T e v T S') : zg g 0 mX5_countStates T 2 [some (.ref k0), some (.int x1)] [] T S v T S' := by
  unfold fX5_countStates_l2 at h
  refine z_iload_n dX5_countStates_2 rfl ?_
  refine z_aload_n dX5_countStates_3 rfl ?_
  refine z_gR (zF.x zfX5_9) h0.1 dX5_countStates_4 ?_
  refine z_gI (zF.x zfX5_111) h0.2.1.1 dX5_countStates_7 ?_
  refine z_icmp_gt (tgt := 55) dX5_countStates_10 (by decide) (fun q1 => ?_) (fun q1 => ?_)
  · rw [if_pos q1] at h
    cases h
    exact z_mask [false, false] rfl (K2_0 _ rfl)
  · rw [if_neg q1] at h
    refine z_iload_n dX5_countStates_13 rfl ?_
    refine z_sipush dX5_countStates_14 cS_256 ?_
    refine z_icmp_ge (tgt := 55) dX5_countStates_17 (by decide) (fun q2 => ?_) (fun q2 => ?_)
    · rw [if_pos q2] at h
      cases h
      exact z_mask [false, false] rfl (K2_0 _ rfl)
    · rw [if_neg q2] at h
      refine z_aload_n dX5_countStates_20 rfl ?_
      refine z_gA (zF.x zfX5_32) h0.1 dX5_countStates_21 ?_
      refine z_iload_n dX5_countStates_24 rfl ?_
      obtain ⟨q3, h⟩ := zgd_elim h
      refine z_iald h0.2.2.2.2.2.2.2.1 (zin_ok q3) dX5_countStates_25 ?_
      refine z_if_lt (tgt := 49) dX5_countStates_26 (by decide) (fun q4 => ?_) (fun q4 => ?_)
      · rw [if_pos q4] at h
        exact z_mask [true, true] rfl (tX5_countStates_b49 T k0 x1 S h0 r h K1 K2_0)
      · rw [if_neg q4] at h
        refine z_aload_n dX5_countStates_29 rfl ?_
        refine z_dup dX5_countStates_30 rfl ?_
        refine z_gI (zF.x zfX5_72) h0.1 dX5_countStates_31 ?_
        refine z_iconst dX5_countStates_34 cI_1 ?_
        refine z_iadd dX5_countStates_35 rfl ?_
        refine z_putI zfX5_72 h0.1 dX5_countStates_36 ?_
        obtain ⟨S6, eS6, h⟩ := zlet_elim h
        refine z_tS eS6 ?_
        refine z_aload_n dX5_countStates_39 rfl ?_
        refine z_dup dX5_countStates_40 rfl ?_
        refine z_gI (zF.x zfX5_75) h0.1 dX5_countStates_41 ?_
        refine z_iload_n dX5_countStates_44 rfl ?_
        refine z_ior dX5_countStates_45 rfl ?_
        refine z_putI zfX5_75 h0.1 dX5_countStates_46 ?_
        obtain ⟨S7, eS7, h⟩ := zlet_elim h
        refine z_tS eS7 ?_
        exact z_mask [true, true] rfl (tX5_countStates_b49 T k0 x1 S7 h0 r h K1 K2_0)
set_option maxHeartbeats 4000000 in
set_option maxRecDepth 100000 in
theorem tX5_countStates_l2 (T : zT) (k0 : Nat) (h0 : iX5 T k0) {g : zG} {v : Option Value} {S' : zS} : ∀ (n : Nat) (a : (Int32 × zS)) (e : zS), lpn (fun a => fX5_countStates_l2 T k0 a.1 a.2) n a = some e → (∀ e1 : zS, e = e1 → zg g 0 mX5_countStates T 55 [none, none] [] T e1 v T S') → zg g 0 mX5_countStates T 2 [some (.ref k0), some (.int a.1)] [] T a.2 v T S' := by
  intro n
  induction n with
  | zero =>
    intro a e h
    cases h
  | succ n ih =>
    intro a e h k0_
    rcases lpn_succ h with ⟨a1, ha_, hb_⟩ | ha_
    · exact tX5_countStates_l2b T k0 a.1 a.2 h0 _ ha_ (fun a2 q => by cases q; exact ih a1 e hb_ k0_) (fun e1 q => by cases q)
    · exact tX5_countStates_l2b T k0 a.1 a.2 h0 _ ha_ (fun a2 q => by cases q) (fun e1 q => by cases q; exact k0_ _ rfl)
set_option maxHeartbeats 4000000 in
set_option maxRecDepth 100000 in
theorem tX5_countStates_b55 (T : zT)  (S : zS)  {g : zG} (r : (Unit × zS)) (h : fX5_countStates_b55 T  S = some r)  : zg g 0 mX5_countStates T 55 [none, none] [] T S none T r.2 := by
  unfold fX5_countStates_b55 at h
  cases h
  exact z_vret rfl dX5_countStates_55
set_option maxHeartbeats 4000000 in
set_option maxRecDepth 100000 in
theorem tX5_countStates (T : zT) (k0 : Nat) (S : zS) (h0 : iX5 T k0) (r : Unit × zS) (h : fX5_countStates T k0 S = some r) : zGM 0 mX5_countStates [.ref k0] T S none T r.2 := by
  refine zGM_of zpnX5 rfl (Nat.le_of_ble_eq_true rfl) (fun g => ?_)
  show zg g 0 mX5_countStates T 0 [some (.ref k0), none] [] T S none T r.2
  unfold fX5_countStates at h
  refine z_iconst dX5_countStates_0 cI_0 ?_
  refine z_istore_n dX5_countStates_1 rfl (by decide) rfl ?_
  obtain ⟨e8, hl9, h⟩ := zb1_elim h
  obtain ⟨nf10, hl9⟩ := lp_some hl9
  refine z_mask [true, true] rfl (tX5_countStates_l2 T k0 h0 nf10 (0, S) e8 hl9 (fun e_ q => ?_))
  · cases q
    exact z_mask [false, false] rfl (tX5_countStates_b55 T  e8  r h)
/-! X5_lastSet -/
noncomputable def fX5_lastSet_b33 (T : zT) (k0 : Nat) (x1 : Int32) (S : zS) : Option (Int32 ⊕ (Unit ⊕ Int32)) :=
  zlet (x1 + 1) fun u4 => some (.inl u4)
noncomputable def fX5_lastSet_l2 (T : zT) (k0 : Nat) (S : zS) (x1 : Int32) : Option (Int32 ⊕ (Unit ⊕ Int32)) :=
  if 256 ≤ x1 then some (.inr (.inl ())) else zgd (zin x1 256) (if (S.1 (zr T k0 11) (x1 : Int32).toNatClampNeg) < 0 then fX5_lastSet_b33 T k0 x1 S else zgd (zin x1 256) (if (S.1 (zr T k0 11) (x1 : Int32).toNatClampNeg) = (S.1 k0 3) then some (.inr (.inr x1)) else fX5_lastSet_b33 T k0 x1 S))
noncomputable def fX5_lastSet (T : zT) (k0 : Nat) (S : zS) : Option Int32 :=
  zb1 (lp (fun a => fX5_lastSet_l2 T k0 S a) 0) fun e7 => zsm e7 (fun e7_0 => some 0) (fun e7_1 => some e7_1)
set_option maxHeartbeats 4000000 in
set_option maxRecDepth 100000 in
theorem tX5_lastSet_b33 (T : zT) (k0 : Nat) (x1 : Int32) (S : zS) (h0 : iX5 T k0) {g : zG} {v : Option Value} {S' : zS} (r : (Int32 ⊕ (Unit ⊕ Int32))) (h : fX5_lastSet_b33 T k0 x1 S = some r) (K1 : ∀ a : Int32, r = .inl a → zg g 0 mX5_lastSet T 2 [some (.ref k0), some (.int a)] [] T S v T S') (K2_0 : ∀ e : Unit, r = .inr (.inl e) → zg g 0 mX5_lastSet T 39 [none, none] [] T S v T S') (K2_1 : ∀ e : Int32, r = .inr (.inr e) → zg g 0 mX5_lastSet T 31 [none, some (.int e)] [] T S v T S') : zg g 0 mX5_lastSet T 33 [some (.ref k0), some (.int x1)] [] T S v T S' := by
  unfold fX5_lastSet_b33 at h
  obtain ⟨u4, eu4, h⟩ := zlet_elim h
  refine z_iinc (r := u4) dX5_lastSet_33 rfl (by rw [eu4, cI_1]) rfl (by decide) rfl ?_
  refine z_goto (tgt := 2) dX5_lastSet_36 (by decide) ?_
  cases h
  exact z_mask [true, true] rfl (K1 _ rfl)
set_option maxHeartbeats 4000000 in
set_option maxRecDepth 100000 in
theorem tX5_lastSet_l2b (T : zT) (k0 : Nat) (S : zS) (x1 : Int32) (h0 : iX5 T k0) {g : zG} {v : Option Value} {S' : zS} (r : Int32 ⊕ (Unit ⊕ Int32)) (h : fX5_lastSet_l2 T k0 S x1 = some r) (K1 : ∀ a : Int32, r = .inl a → zg g 0 mX5_lastSet T 2 [some (.ref k0), some (.int a)] [] T S v T S') (K2_0 : ∀ e : Unit, r = .inr (.inl e) → zg g 0 mX5_lastSet T 39 [none, none] [] T S v T S') (K2_1 : ∀ e : Int32, r = .inr (.inr e) → zg g 0 mX5_lastSet T 31 [none, some (.int e)] [] T S v T S') : zg g 0 mX5_lastSet T 2 [some (.ref k0), some (.int x1)] [] T S v T S' := by
  unfold fX5_lastSet_l2 at h
  refine z_iload_n dX5_lastSet_2 rfl ?_
  refine z_sipush dX5_lastSet_3 cS_256 ?_
  refine z_icmp_ge (tgt := 39) dX5_lastSet_6 (by decide) (fun q1 => ?_) (fun q1 => ?_)
  · rw [if_pos q1] at h
    cases h
    exact z_mask [false, false] rfl (K2_0 _ rfl)
  · rw [if_neg q1] at h
    refine z_aload_n dX5_lastSet_9 rfl ?_
    refine z_gA (zF.x zfX5_32) h0.1 dX5_lastSet_10 ?_
    refine z_iload_n dX5_lastSet_13 rfl ?_
    obtain ⟨q2, h⟩ := zgd_elim h
    refine z_iald h0.2.2.2.2.2.2.2.1 (zin_ok q2) dX5_lastSet_14 ?_
    refine z_if_lt (tgt := 33) dX5_lastSet_15 (by decide) (fun q3 => ?_) (fun q3 => ?_)
    · rw [if_pos q3] at h
      exact z_mask [true, true] rfl (tX5_lastSet_b33 T k0 x1 S h0 r h K1 K2_0 K2_1)
    · rw [if_neg q3] at h
      refine z_aload_n dX5_lastSet_18 rfl ?_
      refine z_gA (zF.x zfX5_32) h0.1 dX5_lastSet_19 ?_
      refine z_iload_n dX5_lastSet_22 rfl ?_
      obtain ⟨q5, h⟩ := zgd_elim h
      refine z_iald h0.2.2.2.2.2.2.2.1 (zin_ok q5) dX5_lastSet_23 ?_
      refine z_aload_n dX5_lastSet_24 rfl ?_
      refine z_gI (zF.x zfX5_98) h0.1 dX5_lastSet_25 ?_
      refine z_icmp_ne (tgt := 33) dX5_lastSet_28 (by decide) (fun q6 => ?_) (fun q6 => ?_)
      · rw [if_neg q6] at h
        exact z_mask [true, true] rfl (tX5_lastSet_b33 T k0 x1 S h0 r h K1 K2_0 K2_1)
      · rw [if_pos q6] at h
        cases h
        exact z_mask [false, true] rfl (K2_1 _ rfl)
set_option maxHeartbeats 4000000 in
set_option maxRecDepth 100000 in
theorem tX5_lastSet_l2 (T : zT) (k0 : Nat) (S : zS) (h0 : iX5 T k0) {g : zG} {v : Option Value} {S' : zS} : ∀ (n : Nat) (a : Int32) (e : (Unit ⊕ Int32)), lpn (fun a => fX5_lastSet_l2 T k0 S a) n a = some e → (∀ e1 : Unit, e = (.inl e1) → zg g 0 mX5_lastSet T 39 [none, none] [] T S v T S') → (∀ e1 : Int32, e = (.inr e1) → zg g 0 mX5_lastSet T 31 [none, some (.int e1)] [] T S v T S') → zg g 0 mX5_lastSet T 2 [some (.ref k0), some (.int a)] [] T S v T S' := by
  intro n
  induction n with
  | zero =>
    intro a e h
    cases h
  | succ n ih =>
    intro a e h k0_ k1_
    rcases lpn_succ h with ⟨a1, ha_, hb_⟩ | ha_
    · exact tX5_lastSet_l2b T k0 S a h0 _ ha_ (fun a2 q => by cases q; exact ih a1 e hb_ k0_ k1_) (fun e1 q => by cases q) (fun e1 q => by cases q)
    · exact tX5_lastSet_l2b T k0 S a h0 _ ha_ (fun a2 q => by cases q) (fun e1 q => by cases q; exact k0_ _ rfl) (fun e1 q => by cases q; exact k1_ _ rfl)
set_option maxHeartbeats 4000000 in
set_option maxRecDepth 100000 in
theorem tX5_lastSet (T : zT) (k0 : Nat) (S : zS) (h0 : iX5 T k0) (r : Int32) (h : fX5_lastSet T k0 S = some r) : zGM 0 mX5_lastSet [.ref k0] T S (some (.int r)) T S := by
  refine zGM_of zpnX5 rfl (Nat.le_of_ble_eq_true rfl) (fun g => ?_)
  show zg g 0 mX5_lastSet T 0 [some (.ref k0), none] [] T S (some (.int r)) T S
  unfold fX5_lastSet at h
  refine z_iconst dX5_lastSet_0 cI_0 ?_
  refine z_istore_n dX5_lastSet_1 rfl (by decide) rfl ?_
  obtain ⟨e7, hl8, h⟩ := zb1_elim h
  obtain ⟨nf9, hl8⟩ := lp_some hl8
  refine z_mask [true, true] rfl (tX5_lastSet_l2 T k0 S h0 nf9 0 e7 hl8 (fun e7_0 q => ?_) (fun e7_1 q => ?_))
  · cases q
    replace h := zsm_l h
    refine z_iconst dX5_lastSet_39 cI_0 ?_
    cases h
    exact z_iret rfl dX5_lastSet_40
  · cases q
    replace h := zsm_r h
    refine z_iload_n dX5_lastSet_31 rfl ?_
    cases h
    exact z_iret rfl dX5_lastSet_32
/-! X5_start -/
noncomputable def fX5_start_b20 (T : zT) (k0 : Nat) (n0 : Nat) (x1 : Int32) (x2 : Int32) (x3 : Int32) (s0 : Int32) (s1 : Int32) (s2 : Nat) (m2 : Nat) (S : zS) : Option ((Int32 × zS) ⊕ zS) :=
  zgd (zin s1 m2) (zlet (zI S s2 (s1 : Int32).toNatClampNeg s0) fun S4 => zlet (x3 + 1) fun u5 => some (.inl (u5, S4)))
noncomputable def fX5_start_l2 (T : zT) (k0 : Nat) (n0 : Nat) (x1 : Int32) (x2 : Int32) (x3 : Int32) (S : zS) : Option ((Int32 × zS) ⊕ zS) :=
  if (Int32.ofNat n0) ≤ x3 then some (.inr S) else if x3 = x1 then fX5_start_b20 T k0 n0 x1 x2 x3 x2 x3 k0 n0 S else fX5_start_b20 T k0 n0 x1 x2 x3 (-1) x3 k0 n0 S
noncomputable def fX5_start (T : zT) (k0 : Nat) (n0 : Nat) (x1 : Int32) (x2 : Int32) (S : zS) : Option (Unit × zS) :=
  zb1 (lp (fun a => fX5_start_l2 T k0 n0 x1 x2 a.1 a.2) (0, S)) fun e6 => some ((), e6)
set_option maxHeartbeats 4000000 in
set_option maxRecDepth 100000 in
theorem tX5_start_b20 (T : zT) (k0 : Nat) (n0 : Nat) (x1 : Int32) (x2 : Int32) (x3 : Int32) (s0 : Int32) (s1 : Int32) (s2 : Nat) (m2 : Nat) (S : zS) (h0 : zL T k0 20 n0) (g2 : zL T s2 20 m2) {g : zG} {v : Option Value} {S' : zS} (r : ((Int32 × zS) ⊕ zS)) (h : fX5_start_b20 T k0 n0 x1 x2 x3 s0 s1 s2 m2 S = some r) (K1 : ∀ a : (Int32 × zS), r = .inl a → zg g 0 mX5_start T 2 [some (.ref k0), some (.int x1), some (.int x2), some (.int a.1)] [] T a.2 v T S') (K2_0 : ∀ e : zS, r = .inr e → zg g 0 mX5_start T 27 [none, none, none, none] [] T e v T S') : zg g 0 mX5_start T 20 [some (.ref k0), some (.int x1), some (.int x2), some (.int x3)] [.int s0, .int s1, .ref s2] T S v T S' := by
  unfold fX5_start_b20 at h
  obtain ⟨q3, h⟩ := zgd_elim h
  refine z_iast g2 (zin_ok q3) dX5_start_20 ?_
  obtain ⟨S4, eS4, h⟩ := zlet_elim h
  refine z_tS eS4 ?_
  obtain ⟨u5, eu5, h⟩ := zlet_elim h
  refine z_iinc (r := u5) dX5_start_21 rfl (by rw [eu5, cI_1]) rfl (by decide) rfl ?_
  refine z_goto (tgt := 2) dX5_start_24 (by decide) ?_
  cases h
  exact z_mask [true, true, true, true] rfl (K1 _ rfl)
set_option maxHeartbeats 4000000 in
set_option maxRecDepth 100000 in
theorem tX5_start_l2b (T : zT) (k0 : Nat) (n0 : Nat) (x1 : Int32) (x2 : Int32) (x3 : Int32) (S : zS) (h0 : zL T k0 20 n0) {g : zG} {v : Option Value} {S' : zS} (r : (Int32 × zS) ⊕ zS) (h : fX5_start_l2 T k0 n0 x1 x2 x3 S = some r) (K1 : ∀ a : (Int32 × zS), r = .inl a → zg g 0 mX5_start T 2 [some (.ref k0), some (.int x1), some (.int x2), some (.int a.1)] [] T a.2 v T S') (K2_0 : ∀ e : zS, r = .inr e → zg g 0 mX5_start T 27 [none, none, none, none] [] T e v T S') : zg g 0 mX5_start T 2 [some (.ref k0), some (.int x1), some (.int x2), some (.int x3)] [] T S v T S' := by
  unfold fX5_start_l2 at h
  refine z_iload_n dX5_start_2 rfl ?_
  refine z_aload_n dX5_start_3 rfl ?_
  refine z_alenI h0 (by decide) dX5_start_4 ?_
  refine z_icmp_ge (tgt := 27) dX5_start_5 (by decide) (fun q1 => ?_) (fun q1 => ?_)
  · rw [if_pos q1] at h
    cases h
    exact z_mask [false, false, false, false] rfl (K2_0 _ rfl)
  · rw [if_neg q1] at h
    refine z_aload_n dX5_start_8 rfl ?_
    refine z_iload_n dX5_start_9 rfl ?_
    refine z_iload_n dX5_start_10 rfl ?_
    refine z_iload_n dX5_start_11 rfl ?_
    refine z_icmp_ne (tgt := 19) dX5_start_12 (by decide) (fun q2 => ?_) (fun q2 => ?_)
    · rw [if_neg q2] at h
      refine z_iconst dX5_start_19 cI_m1 ?_
      exact z_mask [true, true, true, true] rfl (tX5_start_b20 T k0 n0 x1 x2 x3 (-1) x3 k0 n0 S h0 h0 r h K1 K2_0)
    · rw [if_pos q2] at h
      refine z_iload_n dX5_start_15 rfl ?_
      refine z_goto (tgt := 20) dX5_start_16 (by decide) ?_
      exact z_mask [true, true, true, true] rfl (tX5_start_b20 T k0 n0 x1 x2 x3 x2 x3 k0 n0 S h0 h0 r h K1 K2_0)
set_option maxHeartbeats 4000000 in
set_option maxRecDepth 100000 in
theorem tX5_start_l2 (T : zT) (k0 : Nat) (n0 : Nat) (x1 : Int32) (x2 : Int32) (h0 : zL T k0 20 n0) {g : zG} {v : Option Value} {S' : zS} : ∀ (n : Nat) (a : (Int32 × zS)) (e : zS), lpn (fun a => fX5_start_l2 T k0 n0 x1 x2 a.1 a.2) n a = some e → (∀ e1 : zS, e = e1 → zg g 0 mX5_start T 27 [none, none, none, none] [] T e1 v T S') → zg g 0 mX5_start T 2 [some (.ref k0), some (.int x1), some (.int x2), some (.int a.1)] [] T a.2 v T S' := by
  intro n
  induction n with
  | zero =>
    intro a e h
    cases h
  | succ n ih =>
    intro a e h k0_
    rcases lpn_succ h with ⟨a1, ha_, hb_⟩ | ha_
    · exact tX5_start_l2b T k0 n0 x1 x2 a.1 a.2 h0 _ ha_ (fun a2 q => by cases q; exact ih a1 e hb_ k0_) (fun e1 q => by cases q)
    · exact tX5_start_l2b T k0 n0 x1 x2 a.1 a.2 h0 _ ha_ (fun a2 q => by cases q) (fun e1 q => by cases q; exact k0_ _ rfl)
set_option maxHeartbeats 4000000 in
set_option maxRecDepth 100000 in
theorem tX5_start (T : zT) (k0 : Nat) (n0 : Nat) (x1 : Int32) (x2 : Int32) (S : zS) (h0 : zL T k0 20 n0) (r : Unit × zS) (h : fX5_start T k0 n0 x1 x2 S = some r) : zGM 0 mX5_start [.ref k0, .int x1, .int x2] T S none T r.2 := by
  refine zGM_of zpnX5 rfl (Nat.le_of_ble_eq_true rfl) (fun g => ?_)
  show zg g 0 mX5_start T 0 [some (.ref k0), some (.int x1), some (.int x2), none] [] T S none T r.2
  unfold fX5_start at h
  refine z_iconst dX5_start_0 cI_0 ?_
  refine z_istore_n dX5_start_1 rfl (by decide) rfl ?_
  obtain ⟨e6, hl7, h⟩ := zb1_elim h
  obtain ⟨nf8, hl7⟩ := lp_some hl7
  refine z_mask [true, true, true, true] rfl (tX5_start_l2 T k0 n0 x1 x2 h0 nf8 (0, S) e6 hl7 (fun e_ q => ?_))
  · cases q
    cases h
    exact z_vret rfl dX5_start_27
/-! X5_coinAt -/
noncomputable def fX5_coinAt_b37 (T : zT) (s0 : Int32) (S : zS) : Option Int32 :=
  some s0
noncomputable def fX5_coinAt_b36 (T : zT)  (S : zS) : Option Int32 :=
  fX5_coinAt_b37 T (-1) S
noncomputable def fX5_coinAt (T : zT) (k0 : Nat) (x1 : Int32) (x2 : Int32) (S : zS) : Option Int32 :=
  if x1 < 0 then fX5_coinAt_b36 T  S else if 60 ≤ x1 then fX5_coinAt_b36 T  S else if x2 < 0 then fX5_coinAt_b36 T  S else if 256 ≤ x2 then fX5_coinAt_b36 T  S else zgd (zin ((x1 * 256) + x2) 15360) (fX5_coinAt_b37 T (S.1 (zr T k0 8) (((x1 * 256) + x2) : Int32).toNatClampNeg) S)
set_option maxHeartbeats 4000000 in
set_option maxRecDepth 100000 in
theorem tX5_coinAt_b37 (T : zT) (s0 : Int32) (S : zS)  {g : zG} (r : Int32) (h : fX5_coinAt_b37 T s0 S = some r)  : zg g 0 mX5_coinAt T 37 [none, none, none] [.int s0] T S (some (.int r)) T S := by
  unfold fX5_coinAt_b37 at h
  cases h
  exact z_iret rfl dX5_coinAt_37
set_option maxHeartbeats 4000000 in
set_option maxRecDepth 100000 in
theorem tX5_coinAt_b36 (T : zT)  (S : zS)  {g : zG} (r : Int32) (h : fX5_coinAt_b36 T  S = some r)  : zg g 0 mX5_coinAt T 36 [none, none, none] [] T S (some (.int r)) T S := by
  unfold fX5_coinAt_b36 at h
  refine z_iconst dX5_coinAt_36 cI_m1 ?_
  exact z_mask [false, false, false] rfl (tX5_coinAt_b37 T (-1) S  r h)
set_option maxHeartbeats 4000000 in
set_option maxRecDepth 100000 in
theorem tX5_coinAt (T : zT) (k0 : Nat) (x1 : Int32) (x2 : Int32) (S : zS) (h0 : iX5 T k0) (r : Int32) (h : fX5_coinAt T k0 x1 x2 S = some r) : zGM 0 mX5_coinAt [.ref k0, .int x1, .int x2] T S (some (.int r)) T S := by
  refine zGM_of zpnX5 rfl (Nat.le_of_ble_eq_true rfl) (fun g => ?_)
  show zg g 0 mX5_coinAt T 0 [some (.ref k0), some (.int x1), some (.int x2)] [] T S (some (.int r)) T S
  unfold fX5_coinAt at h
  refine z_iload_n dX5_coinAt_0 rfl ?_
  refine z_if_lt (tgt := 36) dX5_coinAt_1 (by decide) (fun q1 => ?_) (fun q1 => ?_)
  · rw [if_pos q1] at h
    exact z_mask [false, false, false] rfl (tX5_coinAt_b36 T  S  r h)
  · rw [if_neg q1] at h
    refine z_iload_n dX5_coinAt_4 rfl ?_
    refine z_bipush dX5_coinAt_5 cB_60 ?_
    refine z_icmp_ge (tgt := 36) dX5_coinAt_7 (by decide) (fun q2 => ?_) (fun q2 => ?_)
    · rw [if_pos q2] at h
      exact z_mask [false, false, false] rfl (tX5_coinAt_b36 T  S  r h)
    · rw [if_neg q2] at h
      refine z_iload_n dX5_coinAt_10 rfl ?_
      refine z_if_lt (tgt := 36) dX5_coinAt_11 (by decide) (fun q3 => ?_) (fun q3 => ?_)
      · rw [if_pos q3] at h
        exact z_mask [false, false, false] rfl (tX5_coinAt_b36 T  S  r h)
      · rw [if_neg q3] at h
        refine z_iload_n dX5_coinAt_14 rfl ?_
        refine z_sipush dX5_coinAt_15 cS_256 ?_
        refine z_icmp_ge (tgt := 36) dX5_coinAt_18 (by decide) (fun q4 => ?_) (fun q4 => ?_)
        · rw [if_pos q4] at h
          exact z_mask [false, false, false] rfl (tX5_coinAt_b36 T  S  r h)
        · rw [if_neg q4] at h
          refine z_aload_n dX5_coinAt_21 rfl ?_
          refine z_gA (zF.x zfX5_23) h0.1 dX5_coinAt_22 ?_
          refine z_iload_n dX5_coinAt_25 rfl ?_
          refine z_sipush dX5_coinAt_26 cS_256 ?_
          refine z_imul dX5_coinAt_29 rfl ?_
          refine z_iload_n dX5_coinAt_30 rfl ?_
          refine z_iadd dX5_coinAt_31 rfl ?_
          obtain ⟨q5, h⟩ := zgd_elim h
          refine z_iald h0.2.2.2.2.1 (zin_ok q5) dX5_coinAt_32 ?_
          refine z_goto (tgt := 37) dX5_coinAt_33 (by decide) ?_
          exact z_mask [false, false, false] rfl (tX5_coinAt_b37 T (S.1 (zr T k0 8) (((x1 * 256) + x2) : Int32).toNatClampNeg) S  r h)
/-! X5_worthOf -/
noncomputable def fX5_worthOf_b30 (T : zT) (k0 : Nat) (x1 : Int32) (x2 : Int32) (x3 : Int32) (S : zS) : Option ((Int32 × Int32) ⊕ Int32) :=
  zlet (x3 + 1) fun u3 => some (.inl (x2, u3))
noncomputable def fX5_worthOf_l4 (T : zT) (k0 : Nat) (x1 : Int32) (S : zS) (x2 : Int32) (x3 : Int32) : Option ((Int32 × Int32) ⊕ Int32) :=
  if 8 ≤ x3 then some (.inr x2) else if ((x1 >>> (x3 &&& 31)) &&& 1) = 0 then fX5_worthOf_b30 T k0 x1 x2 x3 S else zgd (zin x3 8) (zlet (x2 + (S.1 (zr T (zr T k0 0) 11) (x3 : Int32).toNatClampNeg)) fun u5 => fX5_worthOf_b30 T k0 x1 u5 x3 S)
noncomputable def fX5_worthOf (T : zT) (k0 : Nat) (x1 : Int32) (S : zS) : Option Int32 :=
  zb1 (lp (fun a => fX5_worthOf_l4 T k0 x1 S a.1 a.2) (0, 0)) fun e6 => some e6
set_option maxHeartbeats 4000000 in
set_option maxRecDepth 100000 in
theorem tX5_worthOf_b30 (T : zT) (k0 : Nat) (x1 : Int32) (x2 : Int32) (x3 : Int32) (S : zS) (h0 : iX5 T k0) {g : zG} {v : Option Value} {S' : zS} (r : ((Int32 × Int32) ⊕ Int32)) (h : fX5_worthOf_b30 T k0 x1 x2 x3 S = some r) (K1 : ∀ a : (Int32 × Int32), r = .inl a → zg g 0 mX5_worthOf T 4 [some (.ref k0), some (.int x1), some (.int a.1), some (.int a.2)] [] T S v T S') (K2_0 : ∀ e : Int32, r = .inr e → zg g 0 mX5_worthOf T 36 [none, none, some (.int e), none] [] T S v T S') : zg g 0 mX5_worthOf T 30 [some (.ref k0), some (.int x1), some (.int x2), some (.int x3)] [] T S v T S' := by
  unfold fX5_worthOf_b30 at h
  obtain ⟨u3, eu3, h⟩ := zlet_elim h
  refine z_iinc (r := u3) dX5_worthOf_30 rfl (by rw [eu3, cI_1]) rfl (by decide) rfl ?_
  refine z_goto (tgt := 4) dX5_worthOf_33 (by decide) ?_
  cases h
  exact z_mask [true, true, true, true] rfl (K1 _ rfl)
set_option maxHeartbeats 4000000 in
set_option maxRecDepth 100000 in
theorem tX5_worthOf_l4b (T : zT) (k0 : Nat) (x1 : Int32) (S : zS) (x2 : Int32) (x3 : Int32) (h0 : iX5 T k0) {g : zG} {v : Option Value} {S' : zS} (r : (Int32 × Int32) ⊕ Int32) (h : fX5_worthOf_l4 T k0 x1 S x2 x3 = some r) (K1 : ∀ a : (Int32 × Int32), r = .inl a → zg g 0 mX5_worthOf T 4 [some (.ref k0), some (.int x1), some (.int a.1), some (.int a.2)] [] T S v T S') (K2_0 : ∀ e : Int32, r = .inr e → zg g 0 mX5_worthOf T 36 [none, none, some (.int e), none] [] T S v T S') : zg g 0 mX5_worthOf T 4 [some (.ref k0), some (.int x1), some (.int x2), some (.int x3)] [] T S v T S' := by
  unfold fX5_worthOf_l4 at h
  refine z_iload_n dX5_worthOf_4 rfl ?_
  refine z_bipush dX5_worthOf_5 cB_8 ?_
  refine z_icmp_ge (tgt := 36) dX5_worthOf_7 (by decide) (fun q1 => ?_) (fun q1 => ?_)
  · rw [if_pos q1] at h
    cases h
    exact z_mask [false, false, true, false] rfl (K2_0 _ rfl)
  · rw [if_neg q1] at h
    refine z_iload_n dX5_worthOf_10 rfl ?_
    refine z_iload_n dX5_worthOf_11 rfl ?_
    refine z_ishr dX5_worthOf_12 rfl ?_
    refine z_iconst dX5_worthOf_13 cI_1 ?_
    refine z_iand dX5_worthOf_14 rfl ?_
    refine z_if_eq (tgt := 30) dX5_worthOf_15 (by decide) (fun q2 => ?_) (fun q2 => ?_)
    · rw [if_pos q2] at h
      exact z_mask [true, true, true, true] rfl (tX5_worthOf_b30 T k0 x1 x2 x3 S h0 r h K1 K2_0)
    · rw [if_neg q2] at h
      refine z_iload_n dX5_worthOf_18 rfl ?_
      refine z_aload_n dX5_worthOf_19 rfl ?_
      refine z_gR (zF.x zfX5_9) h0.1 dX5_worthOf_20 ?_
      refine z_gA zfX5_179 h0.2.1.1 dX5_worthOf_23 ?_
      refine z_iload_n dX5_worthOf_26 rfl ?_
      obtain ⟨q4, h⟩ := zgd_elim h
      refine z_iald h0.2.1.2.2.2.2.2.2.1 (zin_ok q4) dX5_worthOf_27 ?_
      refine z_iadd dX5_worthOf_28 rfl ?_
      obtain ⟨u5, eu5, h⟩ := zlet_elim h
      refine z_ti eu5 ?_
      refine z_istore_n dX5_worthOf_29 rfl (by decide) rfl ?_
      exact z_mask [true, true, true, true] rfl (tX5_worthOf_b30 T k0 x1 u5 x3 S h0 r h K1 K2_0)
set_option maxHeartbeats 4000000 in
set_option maxRecDepth 100000 in
theorem tX5_worthOf_l4 (T : zT) (k0 : Nat) (x1 : Int32) (S : zS) (h0 : iX5 T k0) {g : zG} {v : Option Value} {S' : zS} : ∀ (n : Nat) (a : (Int32 × Int32)) (e : Int32), lpn (fun a => fX5_worthOf_l4 T k0 x1 S a.1 a.2) n a = some e → (∀ e1 : Int32, e = e1 → zg g 0 mX5_worthOf T 36 [none, none, some (.int e1), none] [] T S v T S') → zg g 0 mX5_worthOf T 4 [some (.ref k0), some (.int x1), some (.int a.1), some (.int a.2)] [] T S v T S' := by
  intro n
  induction n with
  | zero =>
    intro a e h
    cases h
  | succ n ih =>
    intro a e h k0_
    rcases lpn_succ h with ⟨a1, ha_, hb_⟩ | ha_
    · exact tX5_worthOf_l4b T k0 x1 S a.1 a.2 h0 _ ha_ (fun a2 q => by cases q; exact ih a1 e hb_ k0_) (fun e1 q => by cases q)
    · exact tX5_worthOf_l4b T k0 x1 S a.1 a.2 h0 _ ha_ (fun a2 q => by cases q) (fun e1 q => by cases q; exact k0_ _ rfl)
set_option maxHeartbeats 4000000 in
set_option maxRecDepth 100000 in
theorem tX5_worthOf (T : zT) (k0 : Nat) (x1 : Int32) (S : zS) (h0 : iX5 T k0) (r : Int32) (h : fX5_worthOf T k0 x1 S = some r) : zGM 0 mX5_worthOf [.ref k0, .int x1] T S (some (.int r)) T S := by
  refine zGM_of zpnX5 rfl (Nat.le_of_ble_eq_true rfl) (fun g => ?_)
  show zg g 0 mX5_worthOf T 0 [some (.ref k0), some (.int x1), none, none] [] T S (some (.int r)) T S
  unfold fX5_worthOf at h
  refine z_iconst dX5_worthOf_0 cI_0 ?_
  refine z_istore_n dX5_worthOf_1 rfl (by decide) rfl ?_
  refine z_iconst dX5_worthOf_2 cI_0 ?_
  refine z_istore_n dX5_worthOf_3 rfl (by decide) rfl ?_
  obtain ⟨e6, hl7, h⟩ := zb1_elim h
  obtain ⟨nf8, hl7⟩ := lp_some hl7
  refine z_mask [true, true, true, true] rfl (tX5_worthOf_l4 T k0 x1 S h0 nf8 (0, 0) e6 hl7 (fun e_ q => ?_))
  · cases q
    refine z_iload_n dX5_worthOf_36 rfl ?_
    cases h
    exact z_iret rfl dX5_worthOf_37
/-! X5_fetchAnywhere -/
noncomputable def fX5_fetchAnywhere_b69 (T : zT) (k0 : Nat) (k1 : Nat) (n1 : Nat) (x2 : Int32) (x3 : Int32) (x4 : Int32) (S : zS) : Option ((Int32 × zS) ⊕ zS) :=
  zlet (x4 + 1) fun u5 => some (.inl (u5, S))
noncomputable def fX5_fetchAnywhere_l3 (T : zT) (k0 : Nat) (k1 : Nat) (n1 : Nat) (x2 : Int32) (x3 : Int32) (x4 : Int32) (S : zS) : Option ((Int32 × zS) ⊕ zS) :=
  if (S.1 (zr T k0 0) 0) < x4 then some (.inr S) else if 256 ≤ x4 then some (.inr S) else zlet (x4 ||| x2) fun u3 => if u3 = x4 then fX5_fetchAnywhere_b69 T k0 k1 n1 x2 x3 x4 S else if 256 ≤ u3 then fX5_fetchAnywhere_b69 T k0 k1 n1 x2 x3 x4 S else zgd (zin x4 n1) (if (S.1 k1 (x4 : Int32).toNatClampNeg) < x3 then fX5_fetchAnywhere_b69 T k0 k1 n1 x2 x3 x4 S else zgd (zin u3 n1) (zgd (zin x4 n1) (zlet (if (S.1 k1 (u3 : Int32).toNatClampNeg) < ((S.1 k1 (x4 : Int32).toNatClampNeg) - x3) then ((S.1 k1 (x4 : Int32).toNatClampNeg) - x3) else (S.1 k1 (u3 : Int32).toNatClampNeg)) fun u11 => zgd (zin u3 n1) (zlet (zI S k1 (u3 : Int32).toNatClampNeg u11) fun S13 => fX5_fetchAnywhere_b69 T k0 k1 n1 x2 x3 x4 S13))))
noncomputable def fX5_fetchAnywhere_b75 (T : zT)  (S : zS) : Option (Unit × zS) :=
  some ((), S)
noncomputable def fX5_fetchAnywhere (T : zT) (k0 : Nat) (k1 : Nat) (n1 : Nat) (x2 : Int32) (x3 : Int32) (S : zS) : Option (Unit × zS) :=
  zb1 (lp (fun a => fX5_fetchAnywhere_l3 T k0 k1 n1 x2 x3 a.1 a.2) (0, S)) fun e14 => fX5_fetchAnywhere_b75 T  e14
set_option maxHeartbeats 4000000 in
set_option maxRecDepth 100000 in
theorem tX5_fetchAnywhere_b69 (T : zT) (k0 : Nat) (k1 : Nat) (n1 : Nat) (x2 : Int32) (x3 : Int32) (x4 : Int32) (S : zS) (h0 : iX5 T k0) (h1 : zL T k1 20 n1) {g : zG} {v : Option Value} {S' : zS} (r : ((Int32 × zS) ⊕ zS)) (h : fX5_fetchAnywhere_b69 T k0 k1 n1 x2 x3 x4 S = some r) (K1 : ∀ a : (Int32 × zS), r = .inl a → zg g 1 mX5_fetchAnywhere T 3 [some (.ref k0), some (.ref k1), some (.int x2), some (.int x3), some (.int a.1), none] [] T a.2 v T S') (K2_0 : ∀ e : zS, r = .inr e → zg g 1 mX5_fetchAnywhere T 75 [none, none, none, none, none, none] [] T e v T S') : zg g 1 mX5_fetchAnywhere T 69 [some (.ref k0), some (.ref k1), some (.int x2), some (.int x3), some (.int x4), none] [] T S v T S' := by
  unfold fX5_fetchAnywhere_b69 at h
  obtain ⟨u5, eu5, h⟩ := zlet_elim h
  refine z_iinc (r := u5) dX5_fetchAnywhere_69 rfl (by rw [eu5, cI_1]) rfl (by decide) rfl ?_
  refine z_goto (tgt := 3) dX5_fetchAnywhere_72 (by decide) ?_
  cases h
  exact z_mask [true, true, true, true, true, false] rfl (K1 _ rfl)
set_option maxHeartbeats 4000000 in
set_option maxRecDepth 100000 in
theorem tX5_fetchAnywhere_l3b (T : zT) (k0 : Nat) (k1 : Nat) (n1 : Nat) (x2 : Int32) (x3 : Int32) (x4 : Int32) (S : zS) (h0 : iX5 T k0) (h1 : zL T k1 20 n1) {g : zG} {v : Option Value} {S' : zS} (r : (Int32 × zS) ⊕ zS) (h : fX5_fetchAnywhere_l3 T k0 k1 n1 x2 x3 x4 S = some r) (K1 : ∀ a : (Int32 × zS), r = .inl a → zg g 1 mX5_fetchAnywhere T 3 [some (.ref k0), some (.ref k1), some (.int x2), some (.int x3), some (.int a.1), none] [] T a.2 v T S') (K2_0 : ∀ e : zS, r = .inr e → zg g 1 mX5_fetchAnywhere T 75 [none, none, none, none, none, none] [] T e v T S') : zg g 1 mX5_fetchAnywhere T 3 [some (.ref k0), some (.ref k1), some (.int x2), some (.int x3), some (.int x4), none] [] T S v T S' := by
  unfold fX5_fetchAnywhere_l3 at h
  refine z_iload dX5_fetchAnywhere_3 rfl ?_
  refine z_aload_n dX5_fetchAnywhere_5 rfl ?_
  refine z_gR (zF.x zfX5_9) h0.1 dX5_fetchAnywhere_6 ?_
  refine z_gI (zF.x zfX5_111) h0.2.1.1 dX5_fetchAnywhere_9 ?_
  refine z_icmp_gt (tgt := 75) dX5_fetchAnywhere_12 (by decide) (fun q1 => ?_) (fun q1 => ?_)
  · rw [if_pos q1] at h
    cases h
    exact z_mask [false, false, false, false, false, false] rfl (K2_0 _ rfl)
  · rw [if_neg q1] at h
    refine z_iload dX5_fetchAnywhere_15 rfl ?_
    refine z_sipush dX5_fetchAnywhere_17 cS_256 ?_
    refine z_icmp_ge (tgt := 75) dX5_fetchAnywhere_20 (by decide) (fun q2 => ?_) (fun q2 => ?_)
    · rw [if_pos q2] at h
      cases h
      exact z_mask [false, false, false, false, false, false] rfl (K2_0 _ rfl)
    · rw [if_neg q2] at h
      refine z_iload dX5_fetchAnywhere_23 rfl ?_
      refine z_iload_n dX5_fetchAnywhere_25 rfl ?_
      refine z_ior dX5_fetchAnywhere_26 rfl ?_
      obtain ⟨u3, eu3, h⟩ := zlet_elim h
      refine z_ti eu3 ?_
      refine z_istore dX5_fetchAnywhere_27 rfl (by decide) rfl ?_
      refine z_iload dX5_fetchAnywhere_29 rfl ?_
      refine z_iload dX5_fetchAnywhere_31 rfl ?_
      refine z_icmp_eq (tgt := 69) dX5_fetchAnywhere_33 (by decide) (fun q4 => ?_) (fun q4 => ?_)
      · rw [if_pos q4] at h
        exact z_mask [true, true, true, true, true, false] rfl (tX5_fetchAnywhere_b69 T k0 k1 n1 x2 x3 x4 S h0 h1 r h K1 K2_0)
      · rw [if_neg q4] at h
        refine z_iload dX5_fetchAnywhere_36 rfl ?_
        refine z_sipush dX5_fetchAnywhere_38 cS_256 ?_
        refine z_icmp_ge (tgt := 69) dX5_fetchAnywhere_41 (by decide) (fun q6 => ?_) (fun q6 => ?_)
        · rw [if_pos q6] at h
          exact z_mask [true, true, true, true, true, false] rfl (tX5_fetchAnywhere_b69 T k0 k1 n1 x2 x3 x4 S h0 h1 r h K1 K2_0)
        · rw [if_neg q6] at h
          refine z_aload_n dX5_fetchAnywhere_44 rfl ?_
          refine z_iload dX5_fetchAnywhere_45 rfl ?_
          obtain ⟨q7, h⟩ := zgd_elim h
          refine z_iald h1 (zin_ok q7) dX5_fetchAnywhere_47 ?_
          refine z_iload_n dX5_fetchAnywhere_48 rfl ?_
          refine z_icmp_lt (tgt := 69) dX5_fetchAnywhere_49 (by decide) (fun q8 => ?_) (fun q8 => ?_)
          · rw [if_pos q8] at h
            exact z_mask [true, true, true, true, true, false] rfl (tX5_fetchAnywhere_b69 T k0 k1 n1 x2 x3 x4 S h0 h1 r h K1 K2_0)
          · rw [if_neg q8] at h
            refine z_aload_n dX5_fetchAnywhere_52 rfl ?_
            refine z_iload dX5_fetchAnywhere_53 rfl ?_
            refine z_aload_n dX5_fetchAnywhere_55 rfl ?_
            refine z_iload dX5_fetchAnywhere_56 rfl ?_
            obtain ⟨q9, h⟩ := zgd_elim h
            refine z_iald h1 (zin_ok q9) dX5_fetchAnywhere_58 ?_
            refine z_aload_n dX5_fetchAnywhere_59 rfl ?_
            refine z_iload dX5_fetchAnywhere_60 rfl ?_
            obtain ⟨q10, h⟩ := zgd_elim h
            refine z_iald h1 (zin_ok q10) dX5_fetchAnywhere_62 ?_
            refine z_iload_n dX5_fetchAnywhere_63 rfl ?_
            refine z_isub dX5_fetchAnywhere_64 rfl ?_
            refine z_mmax zxX5_127 zmmax_static zjJ9 zmmax_code rfl (by decide) (Nat.le_of_ble_eq_true rfl) ⟨Nat.le_refl _, Nat.le_refl _⟩ dX5_fetchAnywhere_65 ?_
            obtain ⟨u11, eu11, h⟩ := zlet_elim h
            refine z_ti eu11 ?_
            obtain ⟨q12, h⟩ := zgd_elim h
            refine z_iast h1 (zin_ok q12) dX5_fetchAnywhere_68 ?_
            obtain ⟨S13, eS13, h⟩ := zlet_elim h
            refine z_tS eS13 ?_
            exact z_mask [true, true, true, true, true, false] rfl (tX5_fetchAnywhere_b69 T k0 k1 n1 x2 x3 x4 S13 h0 h1 r h K1 K2_0)
set_option maxHeartbeats 4000000 in
set_option maxRecDepth 100000 in
theorem tX5_fetchAnywhere_l3 (T : zT) (k0 : Nat) (k1 : Nat) (n1 : Nat) (x2 : Int32) (x3 : Int32) (h0 : iX5 T k0) (h1 : zL T k1 20 n1) {g : zG} {v : Option Value} {S' : zS} : ∀ (n : Nat) (a : (Int32 × zS)) (e : zS), lpn (fun a => fX5_fetchAnywhere_l3 T k0 k1 n1 x2 x3 a.1 a.2) n a = some e → (∀ e1 : zS, e = e1 → zg g 1 mX5_fetchAnywhere T 75 [none, none, none, none, none, none] [] T e1 v T S') → zg g 1 mX5_fetchAnywhere T 3 [some (.ref k0), some (.ref k1), some (.int x2), some (.int x3), some (.int a.1), none] [] T a.2 v T S' := by
  intro n
  induction n with
  | zero =>
    intro a e h
    cases h
  | succ n ih =>
    intro a e h k0_
    rcases lpn_succ h with ⟨a1, ha_, hb_⟩ | ha_
    · exact tX5_fetchAnywhere_l3b T k0 k1 n1 x2 x3 a.1 a.2 h0 h1 _ ha_ (fun a2 q => by cases q; exact ih a1 e hb_ k0_) (fun e1 q => by cases q)
    · exact tX5_fetchAnywhere_l3b T k0 k1 n1 x2 x3 a.1 a.2 h0 h1 _ ha_ (fun a2 q => by cases q) (fun e1 q => by cases q; exact k0_ _ rfl)
set_option maxHeartbeats 4000000 in
set_option maxRecDepth 100000 in
theorem tX5_fetchAnywhere_b75 (T : zT)  (S : zS)  {g : zG} (r : (Unit × zS)) (h : fX5_fetchAnywhere_b75 T  S = some r)  : zg g 1 mX5_fetchAnywhere T 75 [none, none, none, none, none, none] [] T S none T r.2 := by
  unfold fX5_fetchAnywhere_b75 at h
  cases h
  exact z_vret rfl dX5_fetchAnywhere_75
set_option maxHeartbeats 4000000 in
set_option maxRecDepth 100000 in
theorem tX5_fetchAnywhere (T : zT) (k0 : Nat) (k1 : Nat) (n1 : Nat) (x2 : Int32) (x3 : Int32) (S : zS) (h0 : iX5 T k0) (h1 : zL T k1 20 n1) (r : Unit × zS) (h : fX5_fetchAnywhere T k0 k1 n1 x2 x3 S = some r) : zGM 1 mX5_fetchAnywhere [.ref k0, .ref k1, .int x2, .int x3] T S none T r.2 := by
  refine zGM_of zpnX5 rfl (Nat.le_of_ble_eq_true rfl) (fun g => ?_)
  show zg g 1 mX5_fetchAnywhere T 0 [some (.ref k0), some (.ref k1), some (.int x2), some (.int x3), none, none] [] T S none T r.2
  unfold fX5_fetchAnywhere at h
  refine z_iconst dX5_fetchAnywhere_0 cI_0 ?_
  refine z_istore dX5_fetchAnywhere_1 rfl (by decide) rfl ?_
  obtain ⟨e14, hl15, h⟩ := zb1_elim h
  obtain ⟨nf16, hl15⟩ := lp_some hl15
  refine z_mask [true, true, true, true, true, false] rfl (tX5_fetchAnywhere_l3 T k0 k1 n1 x2 x3 h0 h1 nf16 (0, S) e14 hl15 (fun e_ q => ?_))
  · cases q
    exact z_mask [false, false, false, false, false, false] rfl (tX5_fetchAnywhere_b75 T  e14  r h)
/-! X5_shift -/
noncomputable def fX5_shift_b26 (T : zT) (k0 : Nat) (n0 : Nat) (x1 : Int32) (x2 : Int32) (S : zS) : Option ((Int32 × zS) ⊕ zS) :=
  zlet (x2 + 1) fun u4 => some (.inl (u4, S))
noncomputable def fX5_shift_l2 (T : zT) (k0 : Nat) (n0 : Nat) (x1 : Int32) (x2 : Int32) (S : zS) : Option ((Int32 × zS) ⊕ zS) :=
  if (Int32.ofNat n0) ≤ x2 then some (.inr S) else zgd (zin x2 n0) (if (S.1 k0 (x2 : Int32).toNatClampNeg) < 0 then fX5_shift_b26 T k0 n0 x1 x2 S else zgd (zin x2 n0) (zlet (if (-1) < ((S.1 k0 (x2 : Int32).toNatClampNeg) + x1) then ((S.1 k0 (x2 : Int32).toNatClampNeg) + x1) else (-1)) fun u6 => zgd (zin x2 n0) (zlet (zI S k0 (x2 : Int32).toNatClampNeg u6) fun S8 => fX5_shift_b26 T k0 n0 x1 x2 S8)))
noncomputable def fX5_shift (T : zT) (k0 : Nat) (n0 : Nat) (x1 : Int32) (S : zS) : Option (Unit × zS) :=
  zb1 (lp (fun a => fX5_shift_l2 T k0 n0 x1 a.1 a.2) (0, S)) fun e9 => some ((), e9)
set_option maxHeartbeats 4000000 in
set_option maxRecDepth 100000 in
theorem tX5_shift_b26 (T : zT) (k0 : Nat) (n0 : Nat) (x1 : Int32) (x2 : Int32) (S : zS) (h0 : zL T k0 20 n0) {g : zG} {v : Option Value} {S' : zS} (r : ((Int32 × zS) ⊕ zS)) (h : fX5_shift_b26 T k0 n0 x1 x2 S = some r) (K1 : ∀ a : (Int32 × zS), r = .inl a → zg g 1 mX5_shift T 2 [some (.ref k0), some (.int x1), some (.int a.1)] [] T a.2 v T S') (K2_0 : ∀ e : zS, r = .inr e → zg g 1 mX5_shift T 32 [none, none, none] [] T e v T S') : zg g 1 mX5_shift T 26 [some (.ref k0), some (.int x1), some (.int x2)] [] T S v T S' := by
  unfold fX5_shift_b26 at h
  obtain ⟨u4, eu4, h⟩ := zlet_elim h
  refine z_iinc (r := u4) dX5_shift_26 rfl (by rw [eu4, cI_1]) rfl (by decide) rfl ?_
  refine z_goto (tgt := 2) dX5_shift_29 (by decide) ?_
  cases h
  exact z_mask [true, true, true] rfl (K1 _ rfl)
set_option maxHeartbeats 4000000 in
set_option maxRecDepth 100000 in
theorem tX5_shift_l2b (T : zT) (k0 : Nat) (n0 : Nat) (x1 : Int32) (x2 : Int32) (S : zS) (h0 : zL T k0 20 n0) {g : zG} {v : Option Value} {S' : zS} (r : (Int32 × zS) ⊕ zS) (h : fX5_shift_l2 T k0 n0 x1 x2 S = some r) (K1 : ∀ a : (Int32 × zS), r = .inl a → zg g 1 mX5_shift T 2 [some (.ref k0), some (.int x1), some (.int a.1)] [] T a.2 v T S') (K2_0 : ∀ e : zS, r = .inr e → zg g 1 mX5_shift T 32 [none, none, none] [] T e v T S') : zg g 1 mX5_shift T 2 [some (.ref k0), some (.int x1), some (.int x2)] [] T S v T S' := by
  unfold fX5_shift_l2 at h
  refine z_iload_n dX5_shift_2 rfl ?_
  refine z_aload_n dX5_shift_3 rfl ?_
  refine z_alenI h0 (by decide) dX5_shift_4 ?_
  refine z_icmp_ge (tgt := 32) dX5_shift_5 (by decide) (fun q1 => ?_) (fun q1 => ?_)
  · rw [if_pos q1] at h
    cases h
    exact z_mask [false, false, false] rfl (K2_0 _ rfl)
  · rw [if_neg q1] at h
    refine z_aload_n dX5_shift_8 rfl ?_
    refine z_iload_n dX5_shift_9 rfl ?_
    obtain ⟨q2, h⟩ := zgd_elim h
    refine z_iald h0 (zin_ok q2) dX5_shift_10 ?_
    refine z_if_lt (tgt := 26) dX5_shift_11 (by decide) (fun q3 => ?_) (fun q3 => ?_)
    · rw [if_pos q3] at h
      exact z_mask [true, true, true] rfl (tX5_shift_b26 T k0 n0 x1 x2 S h0 r h K1 K2_0)
    · rw [if_neg q3] at h
      refine z_aload_n dX5_shift_14 rfl ?_
      refine z_iload_n dX5_shift_15 rfl ?_
      refine z_iconst dX5_shift_16 cI_m1 ?_
      refine z_aload_n dX5_shift_17 rfl ?_
      refine z_iload_n dX5_shift_18 rfl ?_
      obtain ⟨q5, h⟩ := zgd_elim h
      refine z_iald h0 (zin_ok q5) dX5_shift_19 ?_
      refine z_iload_n dX5_shift_20 rfl ?_
      refine z_iadd dX5_shift_21 rfl ?_
      refine z_mmax zxX5_127 zmmax_static zjJ9 zmmax_code rfl (by decide) (Nat.le_of_ble_eq_true rfl) ⟨Nat.le_refl _, Nat.le_refl _⟩ dX5_shift_22 ?_
      obtain ⟨u6, eu6, h⟩ := zlet_elim h
      refine z_ti eu6 ?_
      obtain ⟨q7, h⟩ := zgd_elim h
      refine z_iast h0 (zin_ok q7) dX5_shift_25 ?_
      obtain ⟨S8, eS8, h⟩ := zlet_elim h
      refine z_tS eS8 ?_
      exact z_mask [true, true, true] rfl (tX5_shift_b26 T k0 n0 x1 x2 S8 h0 r h K1 K2_0)
set_option maxHeartbeats 4000000 in
set_option maxRecDepth 100000 in
theorem tX5_shift_l2 (T : zT) (k0 : Nat) (n0 : Nat) (x1 : Int32) (h0 : zL T k0 20 n0) {g : zG} {v : Option Value} {S' : zS} : ∀ (n : Nat) (a : (Int32 × zS)) (e : zS), lpn (fun a => fX5_shift_l2 T k0 n0 x1 a.1 a.2) n a = some e → (∀ e1 : zS, e = e1 → zg g 1 mX5_shift T 32 [none, none, none] [] T e1 v T S') → zg g 1 mX5_shift T 2 [some (.ref k0), some (.int x1), some (.int a.1)] [] T a.2 v T S' := by
  intro n
  induction n with
  | zero =>
    intro a e h
    cases h
  | succ n ih =>
    intro a e h k0_
    rcases lpn_succ h with ⟨a1, ha_, hb_⟩ | ha_
    · exact tX5_shift_l2b T k0 n0 x1 a.1 a.2 h0 _ ha_ (fun a2 q => by cases q; exact ih a1 e hb_ k0_) (fun e1 q => by cases q)
    · exact tX5_shift_l2b T k0 n0 x1 a.1 a.2 h0 _ ha_ (fun a2 q => by cases q) (fun e1 q => by cases q; exact k0_ _ rfl)
set_option maxHeartbeats 4000000 in
set_option maxRecDepth 100000 in
theorem tX5_shift (T : zT) (k0 : Nat) (n0 : Nat) (x1 : Int32) (S : zS) (h0 : zL T k0 20 n0) (r : Unit × zS) (h : fX5_shift T k0 n0 x1 S = some r) : zGM 1 mX5_shift [.ref k0, .int x1] T S none T r.2 := by
  refine zGM_of zpnX5 rfl (Nat.le_of_ble_eq_true rfl) (fun g => ?_)
  show zg g 1 mX5_shift T 0 [some (.ref k0), some (.int x1), none] [] T S none T r.2
  unfold fX5_shift at h
  refine z_iconst dX5_shift_0 cI_0 ?_
  refine z_istore_n dX5_shift_1 rfl (by decide) rfl ?_
  obtain ⟨e9, hl10, h⟩ := zb1_elim h
  obtain ⟨nf11, hl10⟩ := lp_some hl10
  refine z_mask [true, true, true] rfl (tX5_shift_l2 T k0 n0 x1 h0 nf11 (0, S) e9 hl10 (fun e_ q => ?_))
  · cases q
    cases h
    exact z_vret rfl dX5_shift_32
/-! X5_mostIn -/
noncomputable def fX5_mostIn_l4 (T : zT) (k0 : Nat) (n0 : Nat) (S : zS) (x1 : Int32) (x2 : Int32) : Option ((Int32 × Int32) ⊕ Int32) :=
  if (Int32.ofNat n0) ≤ x2 then some (.inr x1) else zgd (zin x2 n0) (zlet (if x1 < (S.1 k0 (x2 : Int32).toNatClampNeg) then (S.1 k0 (x2 : Int32).toNatClampNeg) else x1) fun u3 => zlet (x2 + 1) fun u4 => some (.inl (u3, u4)))
noncomputable def fX5_mostIn (T : zT) (k0 : Nat) (n0 : Nat) (S : zS) : Option Int32 :=
  zb1 (lp (fun a => fX5_mostIn_l4 T k0 n0 S a.1 a.2) ((-1), 0)) fun e5 => some e5
set_option maxHeartbeats 4000000 in
set_option maxRecDepth 100000 in
theorem tX5_mostIn_l4b (T : zT) (k0 : Nat) (n0 : Nat) (S : zS) (x1 : Int32) (x2 : Int32) (h0 : zL T k0 20 n0) {g : zG} {v : Option Value} {S' : zS} (r : (Int32 × Int32) ⊕ Int32) (h : fX5_mostIn_l4 T k0 n0 S x1 x2 = some r) (K1 : ∀ a : (Int32 × Int32), r = .inl a → zg g 1 mX5_mostIn T 4 [some (.ref k0), some (.int a.1), some (.int a.2)] [] T S v T S') (K2_0 : ∀ e : Int32, r = .inr e → zg g 1 mX5_mostIn T 24 [none, some (.int e), none] [] T S v T S') : zg g 1 mX5_mostIn T 4 [some (.ref k0), some (.int x1), some (.int x2)] [] T S v T S' := by
  unfold fX5_mostIn_l4 at h
  refine z_iload_n dX5_mostIn_4 rfl ?_
  refine z_aload_n dX5_mostIn_5 rfl ?_
  refine z_alenI h0 (by decide) dX5_mostIn_6 ?_
  refine z_icmp_ge (tgt := 24) dX5_mostIn_7 (by decide) (fun q1 => ?_) (fun q1 => ?_)
  · rw [if_pos q1] at h
    cases h
    exact z_mask [false, true, false] rfl (K2_0 _ rfl)
  · rw [if_neg q1] at h
    refine z_iload_n dX5_mostIn_10 rfl ?_
    refine z_aload_n dX5_mostIn_11 rfl ?_
    refine z_iload_n dX5_mostIn_12 rfl ?_
    obtain ⟨q2, h⟩ := zgd_elim h
    refine z_iald h0 (zin_ok q2) dX5_mostIn_13 ?_
    refine z_mmax zxX5_127 zmmax_static zjJ9 zmmax_code rfl (by decide) (Nat.le_of_ble_eq_true rfl) ⟨Nat.le_refl _, Nat.le_refl _⟩ dX5_mostIn_14 ?_
    obtain ⟨u3, eu3, h⟩ := zlet_elim h
    refine z_ti eu3 ?_
    refine z_istore_n dX5_mostIn_17 rfl (by decide) rfl ?_
    obtain ⟨u4, eu4, h⟩ := zlet_elim h
    refine z_iinc (r := u4) dX5_mostIn_18 rfl (by rw [eu4, cI_1]) rfl (by decide) rfl ?_
    refine z_goto (tgt := 4) dX5_mostIn_21 (by decide) ?_
    cases h
    exact z_mask [true, true, true] rfl (K1 _ rfl)
set_option maxHeartbeats 4000000 in
set_option maxRecDepth 100000 in
theorem tX5_mostIn_l4 (T : zT) (k0 : Nat) (n0 : Nat) (S : zS) (h0 : zL T k0 20 n0) {g : zG} {v : Option Value} {S' : zS} : ∀ (n : Nat) (a : (Int32 × Int32)) (e : Int32), lpn (fun a => fX5_mostIn_l4 T k0 n0 S a.1 a.2) n a = some e → (∀ e1 : Int32, e = e1 → zg g 1 mX5_mostIn T 24 [none, some (.int e1), none] [] T S v T S') → zg g 1 mX5_mostIn T 4 [some (.ref k0), some (.int a.1), some (.int a.2)] [] T S v T S' := by
  intro n
  induction n with
  | zero =>
    intro a e h
    cases h
  | succ n ih =>
    intro a e h k0_
    rcases lpn_succ h with ⟨a1, ha_, hb_⟩ | ha_
    · exact tX5_mostIn_l4b T k0 n0 S a.1 a.2 h0 _ ha_ (fun a2 q => by cases q; exact ih a1 e hb_ k0_) (fun e1 q => by cases q)
    · exact tX5_mostIn_l4b T k0 n0 S a.1 a.2 h0 _ ha_ (fun a2 q => by cases q) (fun e1 q => by cases q; exact k0_ _ rfl)
set_option maxHeartbeats 4000000 in
set_option maxRecDepth 100000 in
theorem tX5_mostIn (T : zT) (k0 : Nat) (n0 : Nat) (S : zS) (h0 : zL T k0 20 n0) (r : Int32) (h : fX5_mostIn T k0 n0 S = some r) : zGM 1 mX5_mostIn [.ref k0] T S (some (.int r)) T S := by
  refine zGM_of zpnX5 rfl (Nat.le_of_ble_eq_true rfl) (fun g => ?_)
  show zg g 1 mX5_mostIn T 0 [some (.ref k0), none, none] [] T S (some (.int r)) T S
  unfold fX5_mostIn at h
  refine z_iconst dX5_mostIn_0 cI_m1 ?_
  refine z_istore_n dX5_mostIn_1 rfl (by decide) rfl ?_
  refine z_iconst dX5_mostIn_2 cI_0 ?_
  refine z_istore_n dX5_mostIn_3 rfl (by decide) rfl ?_
  obtain ⟨e5, hl6, h⟩ := zb1_elim h
  obtain ⟨nf7, hl6⟩ := lp_some hl6
  refine z_mask [true, true, true] rfl (tX5_mostIn_l4 T k0 n0 S h0 nf7 ((-1), 0) e5 hl6 (fun e_ q => ?_))
  · cases q
    refine z_iload_n dX5_mostIn_24 rfl ?_
    cases h
    exact z_iret rfl dX5_mostIn_25
/-! X5_costOf -/
noncomputable def fX5_costOf_b34 (T : zT) (k0 : Nat) (x1 : Int32) (x2 : Int32) (x3 : Int32) (x4 : Int32) (S : zS) : Option ((Int32 × Int32) ⊕ Int32) :=
  zlet (x4 + 1) fun u3 => some (.inl (x3, u3))
noncomputable def fX5_costOf_l5 (T : zT) (k0 : Nat) (x1 : Int32) (x2 : Int32) (S : zS) (x3 : Int32) (x4 : Int32) : Option ((Int32 × Int32) ⊕ Int32) :=
  if 8 ≤ x4 then some (.inr x3) else if ((x1 >>> (x4 &&& 31)) &&& 1) = 0 then fX5_costOf_b34 T k0 x1 x2 x3 x4 S else zb1 (fX0_firstOwed T (zr T k0 0) x4 x2 S) fun r4 => zlet (x3 + r4) fun u6 => fX5_costOf_b34 T k0 x1 x2 u6 x4 S
noncomputable def fX5_costOf (T : zT) (k0 : Nat) (x1 : Int32) (x2 : Int32) (S : zS) : Option Int32 :=
  zb1 (lp (fun a => fX5_costOf_l5 T k0 x1 x2 S a.1 a.2) (0, 0)) fun e7 => some e7
set_option maxHeartbeats 4000000 in
set_option maxRecDepth 100000 in
theorem tX5_costOf_b34 (T : zT) (k0 : Nat) (x1 : Int32) (x2 : Int32) (x3 : Int32) (x4 : Int32) (S : zS) (h0 : iX5 T k0) {g : zG} {v : Option Value} {S' : zS} (r : ((Int32 × Int32) ⊕ Int32)) (h : fX5_costOf_b34 T k0 x1 x2 x3 x4 S = some r) (K1 : ∀ a : (Int32 × Int32), r = .inl a → zg g 1 mX5_costOf T 5 [some (.ref k0), some (.int x1), some (.int x2), some (.int a.1), some (.int a.2)] [] T S v T S') (K2_0 : ∀ e : Int32, r = .inr e → zg g 1 mX5_costOf T 40 [none, none, none, some (.int e), none] [] T S v T S') : zg g 1 mX5_costOf T 34 [some (.ref k0), some (.int x1), some (.int x2), some (.int x3), some (.int x4)] [] T S v T S' := by
  unfold fX5_costOf_b34 at h
  obtain ⟨u3, eu3, h⟩ := zlet_elim h
  refine z_iinc (r := u3) dX5_costOf_34 rfl (by rw [eu3, cI_1]) rfl (by decide) rfl ?_
  refine z_goto (tgt := 5) dX5_costOf_37 (by decide) ?_
  cases h
  exact z_mask [true, true, true, true, true] rfl (K1 _ rfl)
set_option maxHeartbeats 4000000 in
set_option maxRecDepth 100000 in
theorem tX5_costOf_l5b (T : zT) (k0 : Nat) (x1 : Int32) (x2 : Int32) (S : zS) (x3 : Int32) (x4 : Int32) (h0 : iX5 T k0) {g : zG} {v : Option Value} {S' : zS} (r : (Int32 × Int32) ⊕ Int32) (h : fX5_costOf_l5 T k0 x1 x2 S x3 x4 = some r) (K1 : ∀ a : (Int32 × Int32), r = .inl a → zg g 1 mX5_costOf T 5 [some (.ref k0), some (.int x1), some (.int x2), some (.int a.1), some (.int a.2)] [] T S v T S') (K2_0 : ∀ e : Int32, r = .inr e → zg g 1 mX5_costOf T 40 [none, none, none, some (.int e), none] [] T S v T S') : zg g 1 mX5_costOf T 5 [some (.ref k0), some (.int x1), some (.int x2), some (.int x3), some (.int x4)] [] T S v T S' := by
  unfold fX5_costOf_l5 at h
  refine z_iload dX5_costOf_5 rfl ?_
  refine z_bipush dX5_costOf_7 cB_8 ?_
  refine z_icmp_ge (tgt := 40) dX5_costOf_9 (by decide) (fun q1 => ?_) (fun q1 => ?_)
  · rw [if_pos q1] at h
    cases h
    exact z_mask [false, false, false, true, false] rfl (K2_0 _ rfl)
  · rw [if_neg q1] at h
    refine z_iload_n dX5_costOf_12 rfl ?_
    refine z_iload dX5_costOf_13 rfl ?_
    refine z_ishr dX5_costOf_15 rfl ?_
    refine z_iconst dX5_costOf_16 cI_1 ?_
    refine z_iand dX5_costOf_17 rfl ?_
    refine z_if_eq (tgt := 34) dX5_costOf_18 (by decide) (fun q2 => ?_) (fun q2 => ?_)
    · rw [if_pos q2] at h
      exact z_mask [true, true, true, true, true] rfl (tX5_costOf_b34 T k0 x1 x2 x3 x4 S h0 r h K1 K2_0)
    · rw [if_neg q2] at h
      refine z_iload_n dX5_costOf_21 rfl ?_
      refine z_aload_n dX5_costOf_22 rfl ?_
      refine z_gR (zF.x zfX5_9) h0.1 dX5_costOf_23 ?_
      refine z_iload dX5_costOf_26 rfl ?_
      refine z_iload_n dX5_costOf_28 rfl ?_
      obtain ⟨r4, hc5, h⟩ := zb1_elim h
      refine z_callV (As := [.int x4, .int x2]) zcX0 zkX5_158 ziX0_firstOwed zqX0_firstOwed h0.2.1.1 (tX0_firstOwed T (zr T k0 0) x4 x2 S h0.2.1 r4 hc5) rfl rfl (Nat.le_of_ble_eq_true rfl) (by decide) ⟨Nat.le_refl _, Nat.le_refl _⟩ ⟨Nat.le_refl _, Nat.le_refl _⟩ dX5_costOf_29 ?_
      refine z_iadd dX5_costOf_32 rfl ?_
      obtain ⟨u6, eu6, h⟩ := zlet_elim h
      refine z_ti eu6 ?_
      refine z_istore_n dX5_costOf_33 rfl (by decide) rfl ?_
      exact z_mask [true, true, true, true, true] rfl (tX5_costOf_b34 T k0 x1 x2 u6 x4 S h0 r h K1 K2_0)
set_option maxHeartbeats 4000000 in
set_option maxRecDepth 100000 in
theorem tX5_costOf_l5 (T : zT) (k0 : Nat) (x1 : Int32) (x2 : Int32) (S : zS) (h0 : iX5 T k0) {g : zG} {v : Option Value} {S' : zS} : ∀ (n : Nat) (a : (Int32 × Int32)) (e : Int32), lpn (fun a => fX5_costOf_l5 T k0 x1 x2 S a.1 a.2) n a = some e → (∀ e1 : Int32, e = e1 → zg g 1 mX5_costOf T 40 [none, none, none, some (.int e1), none] [] T S v T S') → zg g 1 mX5_costOf T 5 [some (.ref k0), some (.int x1), some (.int x2), some (.int a.1), some (.int a.2)] [] T S v T S' := by
  intro n
  induction n with
  | zero =>
    intro a e h
    cases h
  | succ n ih =>
    intro a e h k0_
    rcases lpn_succ h with ⟨a1, ha_, hb_⟩ | ha_
    · exact tX5_costOf_l5b T k0 x1 x2 S a.1 a.2 h0 _ ha_ (fun a2 q => by cases q; exact ih a1 e hb_ k0_) (fun e1 q => by cases q)
    · exact tX5_costOf_l5b T k0 x1 x2 S a.1 a.2 h0 _ ha_ (fun a2 q => by cases q) (fun e1 q => by cases q; exact k0_ _ rfl)
set_option maxHeartbeats 4000000 in
set_option maxRecDepth 100000 in
theorem tX5_costOf (T : zT) (k0 : Nat) (x1 : Int32) (x2 : Int32) (S : zS) (h0 : iX5 T k0) (r : Int32) (h : fX5_costOf T k0 x1 x2 S = some r) : zGM 1 mX5_costOf [.ref k0, .int x1, .int x2] T S (some (.int r)) T S := by
  refine zGM_of zpnX5 rfl (Nat.le_of_ble_eq_true rfl) (fun g => ?_)
  show zg g 1 mX5_costOf T 0 [some (.ref k0), some (.int x1), some (.int x2), none, none] [] T S (some (.int r)) T S
  unfold fX5_costOf at h
  refine z_iconst dX5_costOf_0 cI_0 ?_
  refine z_istore_n dX5_costOf_1 rfl (by decide) rfl ?_
  refine z_iconst dX5_costOf_2 cI_0 ?_
  refine z_istore dX5_costOf_3 rfl (by decide) rfl ?_
  obtain ⟨e7, hl8, h⟩ := zb1_elim h
  obtain ⟨nf9, hl8⟩ := lp_some hl8
  refine z_mask [true, true, true, true, true] rfl (tX5_costOf_l5 T k0 x1 x2 S h0 nf9 (0, 0) e7 hl8 (fun e_ q => ?_))
  · cases q
    refine z_iload_n dX5_costOf_40 rfl ?_
    cases h
    exact z_iret rfl dX5_costOf_41
/-! X5_firstAllHome -/
noncomputable def fX5_firstAllHome_l2 (T : zT) (k0 : Nat) (S : zS) (x1 : Int32) : Option (Int32 ⊕ (Unit ⊕ Int32)) :=
  if (S.1 (zr T k0 0) 1) ≤ x1 then some (.inr (.inl ())) else zb1 (fX5_coinAt T k0 x1 (S.1 (zr T k0 0) 0) S) fun r2 => if r2 < 0 then zlet (x1 + 1) fun u5 => some (.inl u5) else some (.inr (.inr x1))
noncomputable def fX5_firstAllHome (T : zT) (k0 : Nat) (S : zS) : Option Int32 :=
  zb1 (lp (fun a => fX5_firstAllHome_l2 T k0 S a) 0) fun e6 => zsm e6 (fun e6_0 => some (-1)) (fun e6_1 => some e6_1)
set_option maxHeartbeats 4000000 in
set_option maxRecDepth 100000 in
theorem tX5_firstAllHome_l2b (T : zT) (k0 : Nat) (S : zS) (x1 : Int32) (h0 : iX5 T k0) {g : zG} {v : Option Value} {S' : zS} (r : Int32 ⊕ (Unit ⊕ Int32)) (h : fX5_firstAllHome_l2 T k0 S x1 = some r) (K1 : ∀ a : Int32, r = .inl a → zg g 1 mX5_firstAllHome T 2 [some (.ref k0), some (.int a)] [] T S v T S') (K2_0 : ∀ e : Unit, r = .inr (.inl e) → zg g 1 mX5_firstAllHome T 36 [none, none] [] T S v T S') (K2_1 : ∀ e : Int32, r = .inr (.inr e) → zg g 1 mX5_firstAllHome T 28 [none, some (.int e)] [] T S v T S') : zg g 1 mX5_firstAllHome T 2 [some (.ref k0), some (.int x1)] [] T S v T S' := by
  unfold fX5_firstAllHome_l2 at h
  refine z_iload_n dX5_firstAllHome_2 rfl ?_
  refine z_aload_n dX5_firstAllHome_3 rfl ?_
  refine z_gR (zF.x zfX5_9) h0.1 dX5_firstAllHome_4 ?_
  refine z_gI (zF.x zfX5_78) h0.2.1.1 dX5_firstAllHome_7 ?_
  refine z_icmp_ge (tgt := 36) dX5_firstAllHome_10 (by decide) (fun q1 => ?_) (fun q1 => ?_)
  · rw [if_pos q1] at h
    cases h
    exact z_mask [false, false] rfl (K2_0 _ rfl)
  · rw [if_neg q1] at h
    refine z_aload_n dX5_firstAllHome_13 rfl ?_
    refine z_iload_n dX5_firstAllHome_14 rfl ?_
    refine z_aload_n dX5_firstAllHome_15 rfl ?_
    refine z_gR (zF.x zfX5_9) h0.1 dX5_firstAllHome_16 ?_
    refine z_gI (zF.x zfX5_111) h0.2.1.1 dX5_firstAllHome_19 ?_
    obtain ⟨r2, hc3, h⟩ := zb1_elim h
    refine z_callV (As := [.int x1, .int (S.1 (zr T k0 0) 0)]) zcX5 zkX5_170 ziX5_coinAt zqX5_coinAt h0.1 (tX5_coinAt T k0 x1 (S.1 (zr T k0 0) 0) S h0 r2 hc3) rfl rfl (Nat.le_of_ble_eq_true rfl) (by decide) ⟨Nat.le_refl _, Nat.le_refl _⟩ ⟨Nat.le_refl _, Nat.le_refl _⟩ dX5_firstAllHome_22 ?_
    refine z_if_lt (tgt := 30) dX5_firstAllHome_25 (by decide) (fun q4 => ?_) (fun q4 => ?_)
    · rw [if_pos q4] at h
      obtain ⟨u5, eu5, h⟩ := zlet_elim h
      refine z_iinc (r := u5) dX5_firstAllHome_30 rfl (by rw [eu5, cI_1]) rfl (by decide) rfl ?_
      refine z_goto (tgt := 2) dX5_firstAllHome_33 (by decide) ?_
      cases h
      exact z_mask [true, true] rfl (K1 _ rfl)
    · rw [if_neg q4] at h
      cases h
      exact z_mask [false, true] rfl (K2_1 _ rfl)
set_option maxHeartbeats 4000000 in
set_option maxRecDepth 100000 in
theorem tX5_firstAllHome_l2 (T : zT) (k0 : Nat) (S : zS) (h0 : iX5 T k0) {g : zG} {v : Option Value} {S' : zS} : ∀ (n : Nat) (a : Int32) (e : (Unit ⊕ Int32)), lpn (fun a => fX5_firstAllHome_l2 T k0 S a) n a = some e → (∀ e1 : Unit, e = (.inl e1) → zg g 1 mX5_firstAllHome T 36 [none, none] [] T S v T S') → (∀ e1 : Int32, e = (.inr e1) → zg g 1 mX5_firstAllHome T 28 [none, some (.int e1)] [] T S v T S') → zg g 1 mX5_firstAllHome T 2 [some (.ref k0), some (.int a)] [] T S v T S' := by
  intro n
  induction n with
  | zero =>
    intro a e h
    cases h
  | succ n ih =>
    intro a e h k0_ k1_
    rcases lpn_succ h with ⟨a1, ha_, hb_⟩ | ha_
    · exact tX5_firstAllHome_l2b T k0 S a h0 _ ha_ (fun a2 q => by cases q; exact ih a1 e hb_ k0_ k1_) (fun e1 q => by cases q) (fun e1 q => by cases q)
    · exact tX5_firstAllHome_l2b T k0 S a h0 _ ha_ (fun a2 q => by cases q) (fun e1 q => by cases q; exact k0_ _ rfl) (fun e1 q => by cases q; exact k1_ _ rfl)
set_option maxHeartbeats 4000000 in
set_option maxRecDepth 100000 in
theorem tX5_firstAllHome (T : zT) (k0 : Nat) (S : zS) (h0 : iX5 T k0) (r : Int32) (h : fX5_firstAllHome T k0 S = some r) : zGM 1 mX5_firstAllHome [.ref k0] T S (some (.int r)) T S := by
  refine zGM_of zpnX5 rfl (Nat.le_of_ble_eq_true rfl) (fun g => ?_)
  show zg g 1 mX5_firstAllHome T 0 [some (.ref k0), none] [] T S (some (.int r)) T S
  unfold fX5_firstAllHome at h
  refine z_iconst dX5_firstAllHome_0 cI_0 ?_
  refine z_istore_n dX5_firstAllHome_1 rfl (by decide) rfl ?_
  obtain ⟨e6, hl7, h⟩ := zb1_elim h
  obtain ⟨nf8, hl7⟩ := lp_some hl7
  refine z_mask [true, true] rfl (tX5_firstAllHome_l2 T k0 S h0 nf8 0 e6 hl7 (fun e6_0 q => ?_) (fun e6_1 q => ?_))
  · cases q
    replace h := zsm_l h
    refine z_iconst dX5_firstAllHome_36 cI_m1 ?_
    cases h
    exact z_iret rfl dX5_firstAllHome_37
  · cases q
    replace h := zsm_r h
    refine z_iload_n dX5_firstAllHome_28 rfl ?_
    cases h
    exact z_iret rfl dX5_firstAllHome_29
/-! X5_richest -/
noncomputable def fX5_richest_b53 (T : zT) (k0 : Nat) (x1 : Int32) (x2 : Int32) (S : zS) : Option ((Int32 × Int32) ⊕ Int32) :=
  zlet (x2 + 1) fun u6 => some (.inl (x1, u6))
noncomputable def fX5_richest_l4 (T : zT) (k0 : Nat) (S : zS) (x1 : Int32) (x2 : Int32) : Option ((Int32 × Int32) ⊕ Int32) :=
  if (S.1 (zr T k0 0) 0) < x2 then some (.inr x1) else if 256 ≤ x2 then some (.inr x1) else zb1 (fX5_coinAt T k0 ((S.1 (zr T k0 0) 1) - 1) x2 S) fun r3 => if r3 < 0 then fX5_richest_b53 T k0 x1 x2 S else zb1 (fX5_worthOf T k0 x2 S) fun r7 => zlet (if x1 < (r3 + r7) then (r3 + r7) else x1) fun u9 => fX5_richest_b53 T k0 u9 x2 S
noncomputable def fX5_richest_b59 (T : zT) (x1 : Int32) (S : zS) : Option Int32 :=
  some x1
noncomputable def fX5_richest (T : zT) (k0 : Nat) (S : zS) : Option Int32 :=
  zb1 (lp (fun a => fX5_richest_l4 T k0 S a.1 a.2) ((-1), 0)) fun e10 => fX5_richest_b59 T e10 S
set_option maxHeartbeats 4000000 in
set_option maxRecDepth 100000 in
theorem tX5_richest_b53 (T : zT) (k0 : Nat) (x1 : Int32) (x2 : Int32) (S : zS) (h0 : iX5 T k0) {g : zG} {v : Option Value} {S' : zS} (r : ((Int32 × Int32) ⊕ Int32)) (h : fX5_richest_b53 T k0 x1 x2 S = some r) (K1 : ∀ a : (Int32 × Int32), r = .inl a → zg g 1 mX5_richest T 4 [some (.ref k0), some (.int a.1), some (.int a.2), none] [] T S v T S') (K2_0 : ∀ e : Int32, r = .inr e → zg g 1 mX5_richest T 59 [none, some (.int e), none, none] [] T S v T S') : zg g 1 mX5_richest T 53 [some (.ref k0), some (.int x1), some (.int x2), none] [] T S v T S' := by
  unfold fX5_richest_b53 at h
  obtain ⟨u6, eu6, h⟩ := zlet_elim h
  refine z_iinc (r := u6) dX5_richest_53 rfl (by rw [eu6, cI_1]) rfl (by decide) rfl ?_
  refine z_goto (tgt := 4) dX5_richest_56 (by decide) ?_
  cases h
  exact z_mask [true, true, true, false] rfl (K1 _ rfl)
set_option maxHeartbeats 4000000 in
set_option maxRecDepth 100000 in
theorem tX5_richest_l4b (T : zT) (k0 : Nat) (S : zS) (x1 : Int32) (x2 : Int32) (h0 : iX5 T k0) {g : zG} {v : Option Value} {S' : zS} (r : (Int32 × Int32) ⊕ Int32) (h : fX5_richest_l4 T k0 S x1 x2 = some r) (K1 : ∀ a : (Int32 × Int32), r = .inl a → zg g 1 mX5_richest T 4 [some (.ref k0), some (.int a.1), some (.int a.2), none] [] T S v T S') (K2_0 : ∀ e : Int32, r = .inr e → zg g 1 mX5_richest T 59 [none, some (.int e), none, none] [] T S v T S') : zg g 1 mX5_richest T 4 [some (.ref k0), some (.int x1), some (.int x2), none] [] T S v T S' := by
  unfold fX5_richest_l4 at h
  refine z_iload_n dX5_richest_4 rfl ?_
  refine z_aload_n dX5_richest_5 rfl ?_
  refine z_gR (zF.x zfX5_9) h0.1 dX5_richest_6 ?_
  refine z_gI (zF.x zfX5_111) h0.2.1.1 dX5_richest_9 ?_
  refine z_icmp_gt (tgt := 59) dX5_richest_12 (by decide) (fun q1 => ?_) (fun q1 => ?_)
  · rw [if_pos q1] at h
    cases h
    exact z_mask [false, true, false, false] rfl (K2_0 _ rfl)
  · rw [if_neg q1] at h
    refine z_iload_n dX5_richest_15 rfl ?_
    refine z_sipush dX5_richest_16 cS_256 ?_
    refine z_icmp_ge (tgt := 59) dX5_richest_19 (by decide) (fun q2 => ?_) (fun q2 => ?_)
    · rw [if_pos q2] at h
      cases h
      exact z_mask [false, true, false, false] rfl (K2_0 _ rfl)
    · rw [if_neg q2] at h
      refine z_aload_n dX5_richest_22 rfl ?_
      refine z_aload_n dX5_richest_23 rfl ?_
      refine z_gR (zF.x zfX5_9) h0.1 dX5_richest_24 ?_
      refine z_gI (zF.x zfX5_78) h0.2.1.1 dX5_richest_27 ?_
      refine z_iconst dX5_richest_30 cI_1 ?_
      refine z_isub dX5_richest_31 rfl ?_
      refine z_iload_n dX5_richest_32 rfl ?_
      obtain ⟨r3, hc4, h⟩ := zb1_elim h
      refine z_callV (As := [.int ((S.1 (zr T k0 0) 1) - 1), .int x2]) zcX5 zkX5_170 ziX5_coinAt zqX5_coinAt h0.1 (tX5_coinAt T k0 ((S.1 (zr T k0 0) 1) - 1) x2 S h0 r3 hc4) rfl rfl (Nat.le_of_ble_eq_true rfl) (by decide) ⟨Nat.le_refl _, Nat.le_refl _⟩ ⟨Nat.le_refl _, Nat.le_refl _⟩ dX5_richest_33 ?_
      refine z_istore_n dX5_richest_36 rfl (by decide) rfl ?_
      refine z_iload_n dX5_richest_37 rfl ?_
      refine z_if_lt (tgt := 53) dX5_richest_38 (by decide) (fun q5 => ?_) (fun q5 => ?_)
      · rw [if_pos q5] at h
        exact z_mask [true, true, true, false] rfl (tX5_richest_b53 T k0 x1 x2 S h0 r h K1 K2_0)
      · rw [if_neg q5] at h
        refine z_iload_n dX5_richest_41 rfl ?_
        refine z_iload_n dX5_richest_42 rfl ?_
        refine z_aload_n dX5_richest_43 rfl ?_
        refine z_iload_n dX5_richest_44 rfl ?_
        obtain ⟨r7, hc8, h⟩ := zb1_elim h
        refine z_callV (As := [.int x2]) zcX5 zkX5_176 ziX5_worthOf zqX5_worthOf h0.1 (tX5_worthOf T k0 x2 S h0 r7 hc8) rfl rfl (Nat.le_of_ble_eq_true rfl) (by decide) ⟨Nat.le_refl _, Nat.le_refl _⟩ ⟨Nat.le_refl _, Nat.le_refl _⟩ dX5_richest_45 ?_
        refine z_iadd dX5_richest_48 rfl ?_
        refine z_mmax zxX5_127 zmmax_static zjJ9 zmmax_code rfl (by decide) (Nat.le_of_ble_eq_true rfl) ⟨Nat.le_refl _, Nat.le_refl _⟩ dX5_richest_49 ?_
        obtain ⟨u9, eu9, h⟩ := zlet_elim h
        refine z_ti eu9 ?_
        refine z_istore_n dX5_richest_52 rfl (by decide) rfl ?_
        exact z_mask [true, true, true, false] rfl (tX5_richest_b53 T k0 u9 x2 S h0 r h K1 K2_0)
set_option maxHeartbeats 4000000 in
set_option maxRecDepth 100000 in
theorem tX5_richest_l4 (T : zT) (k0 : Nat) (S : zS) (h0 : iX5 T k0) {g : zG} {v : Option Value} {S' : zS} : ∀ (n : Nat) (a : (Int32 × Int32)) (e : Int32), lpn (fun a => fX5_richest_l4 T k0 S a.1 a.2) n a = some e → (∀ e1 : Int32, e = e1 → zg g 1 mX5_richest T 59 [none, some (.int e1), none, none] [] T S v T S') → zg g 1 mX5_richest T 4 [some (.ref k0), some (.int a.1), some (.int a.2), none] [] T S v T S' := by
  intro n
  induction n with
  | zero =>
    intro a e h
    cases h
  | succ n ih =>
    intro a e h k0_
    rcases lpn_succ h with ⟨a1, ha_, hb_⟩ | ha_
    · exact tX5_richest_l4b T k0 S a.1 a.2 h0 _ ha_ (fun a2 q => by cases q; exact ih a1 e hb_ k0_) (fun e1 q => by cases q)
    · exact tX5_richest_l4b T k0 S a.1 a.2 h0 _ ha_ (fun a2 q => by cases q) (fun e1 q => by cases q; exact k0_ _ rfl)
set_option maxHeartbeats 4000000 in
set_option maxRecDepth 100000 in
theorem tX5_richest_b59 (T : zT) (x1 : Int32) (S : zS)  {g : zG} (r : Int32) (h : fX5_richest_b59 T x1 S = some r)  : zg g 1 mX5_richest T 59 [none, some (.int x1), none, none] [] T S (some (.int r)) T S := by
  unfold fX5_richest_b59 at h
  refine z_iload_n dX5_richest_59 rfl ?_
  cases h
  exact z_iret rfl dX5_richest_60
set_option maxHeartbeats 4000000 in
set_option maxRecDepth 100000 in
theorem tX5_richest (T : zT) (k0 : Nat) (S : zS) (h0 : iX5 T k0) (r : Int32) (h : fX5_richest T k0 S = some r) : zGM 1 mX5_richest [.ref k0] T S (some (.int r)) T S := by
  refine zGM_of zpnX5 rfl (Nat.le_of_ble_eq_true rfl) (fun g => ?_)
  show zg g 1 mX5_richest T 0 [some (.ref k0), none, none, none] [] T S (some (.int r)) T S
  unfold fX5_richest at h
  refine z_iconst dX5_richest_0 cI_m1 ?_
  refine z_istore_n dX5_richest_1 rfl (by decide) rfl ?_
  refine z_iconst dX5_richest_2 cI_0 ?_
  refine z_istore_n dX5_richest_3 rfl (by decide) rfl ?_
  obtain ⟨e10, hl11, h⟩ := zb1_elim h
  obtain ⟨nf12, hl11⟩ := lp_some hl11
  refine z_mask [true, true, true, false] rfl (tX5_richest_l4 T k0 S h0 nf12 ((-1), 0) e10 hl11 (fun e_ q => ?_))
  · cases q
    exact z_mask [false, true, false, false] rfl (tX5_richest_b59 T e10 S  r h)
/-! X5_gainsWithout -/
noncomputable def fX5_gainsWithout_b38 (T : zT) (s0 : Nat) (m0 : Nat) (S : zS) : Option Nat :=
  some s0
noncomputable def fX5_gainsWithout_b27 (T : zT) (k0 : Nat) (S : zS) : Option Nat :=
  fX5_gainsWithout_b38 T (zr T k0 9) 15360 S
noncomputable def fX5_gainsWithout (T : zT) (k0 : Nat) (x1 : Int32) (x2 : Int32) (S : zS) : Option Nat :=
  zb1 (fX0_isLost T (zr T k0 0) x1 x2 S) fun r1 => if r1 = 0 then zb1 (fX2_asks T (zr T (zr T k0 0) 14) 21 S) fun r4 => if r4 = 0 then fX5_gainsWithout_b27 T k0 S else fX5_gainsWithout_b38 T (zr T k0 10) 15360 S else fX5_gainsWithout_b27 T k0 S
set_option maxHeartbeats 4000000 in
set_option maxRecDepth 100000 in
theorem tX5_gainsWithout_b38 (T : zT) (s0 : Nat) (m0 : Nat) (S : zS) (g0 : zL T s0 20 m0) {g : zG} (r : Nat) (h : fX5_gainsWithout_b38 T s0 m0 S = some r)  : zg g 1 mX5_gainsWithout T 38 [none, none, none] [.ref s0] T S (some (.ref r)) T S := by
  unfold fX5_gainsWithout_b38 at h
  cases h
  exact z_aret rfl (Or.inr ⟨_, rfl⟩) dX5_gainsWithout_38
set_option maxHeartbeats 4000000 in
set_option maxRecDepth 100000 in
theorem tX5_gainsWithout_b27 (T : zT) (k0 : Nat) (S : zS) (h0 : iX5 T k0) {g : zG} (r : Nat) (h : fX5_gainsWithout_b27 T k0 S = some r)  : zg g 1 mX5_gainsWithout T 27 [some (.ref k0), none, none] [] T S (some (.ref r)) T S := by
  unfold fX5_gainsWithout_b27 at h
  refine z_aload_n dX5_gainsWithout_27 rfl ?_
  refine z_gA (zF.x zfX5_26) h0.1 dX5_gainsWithout_28 ?_
  refine z_goto (tgt := 38) dX5_gainsWithout_31 (by decide) ?_
  exact z_mask [false, false, false] rfl (tX5_gainsWithout_b38 T (zr T k0 9) 15360 S h0.2.2.2.2.2.1 r h)
set_option maxHeartbeats 4000000 in
set_option maxRecDepth 100000 in
theorem tX5_gainsWithout (T : zT) (k0 : Nat) (x1 : Int32) (x2 : Int32) (S : zS) (h0 : iX5 T k0) (r : Nat) (h : fX5_gainsWithout T k0 x1 x2 S = some r) : zGM 1 mX5_gainsWithout [.ref k0, .int x1, .int x2] T S (some (.ref r)) T S := by
  refine zGM_of zpnX5 rfl (Nat.le_of_ble_eq_true rfl) (fun g => ?_)
  show zg g 1 mX5_gainsWithout T 0 [some (.ref k0), some (.int x1), some (.int x2)] [] T S (some (.ref r)) T S
  unfold fX5_gainsWithout at h
  refine z_aload_n dX5_gainsWithout_0 rfl ?_
  refine z_gR (zF.x zfX5_9) h0.1 dX5_gainsWithout_1 ?_
  refine z_iload_n dX5_gainsWithout_4 rfl ?_
  refine z_iload_n dX5_gainsWithout_5 rfl ?_
  obtain ⟨r1, hc2, h⟩ := zb1_elim h
  refine z_callV (As := [.int x1, .int x2]) zcX0 zkX5_182 ziX0_isLost zqX0_isLost h0.2.1.1 (tX0_isLost T (zr T k0 0) x1 x2 S h0.2.1 r1 hc2) rfl rfl (Nat.le_of_ble_eq_true rfl) (by decide) ⟨Nat.le_refl _, Nat.le_refl _⟩ ⟨Nat.le_refl _, Nat.le_refl _⟩ dX5_gainsWithout_6 ?_
  refine z_if_ne (tgt := 27) dX5_gainsWithout_9 (by decide) (fun q3 => ?_) (fun q3 => ?_)
  · rw [if_neg q3] at h
    exact z_mask [true, false, false] rfl (tX5_gainsWithout_b27 T k0 S h0 r h)
  · rw [if_pos q3] at h
    refine z_aload_n dX5_gainsWithout_12 rfl ?_
    refine z_gR (zF.x zfX5_9) h0.1 dX5_gainsWithout_13 ?_
    refine z_gR zfX5_52 h0.2.1.1 dX5_gainsWithout_16 ?_
    refine z_bipush dX5_gainsWithout_19 cB_21 ?_
    obtain ⟨r4, hc5, h⟩ := zb1_elim h
    refine z_callV (As := [.int 21]) zcX2 zkX5_58 ziX2_asks zqX2_asks h0.2.1.2.2.2.2.2.2.2.2.2.1 (tX2_asks T (zr T (zr T k0 0) 14) 21 S h0.2.1.2.2.2.2.2.2.2.2.2 r4 hc5) rfl rfl (Nat.le_of_ble_eq_true rfl) (by decide) ⟨Nat.le_refl _, Nat.le_refl _⟩ ⟨Nat.le_refl _, Nat.le_refl _⟩ dX5_gainsWithout_21 ?_
    refine z_if_ne (tgt := 34) dX5_gainsWithout_24 (by decide) (fun q6 => ?_) (fun q6 => ?_)
    · rw [if_neg q6] at h
      refine z_aload_n dX5_gainsWithout_34 rfl ?_
      refine z_gA (zF.x zfX5_29) h0.1 dX5_gainsWithout_35 ?_
      exact z_mask [false, false, false] rfl (tX5_gainsWithout_b38 T (zr T k0 10) 15360 S h0.2.2.2.2.2.2.1 r h)
    · rw [if_pos q6] at h
      exact z_mask [true, false, false] rfl (tX5_gainsWithout_b27 T k0 S h0 r h)
set_option maxHeartbeats 4000000 in
set_option maxRecDepth 100000 in
theorem uX5_gainsWithout (T : zT) (k0 : Nat) (x1 : Int32) (x2 : Int32) (S : zS) (h0 : iX5 T k0) (r : Nat) (h : fX5_gainsWithout T k0 x1 x2 S = some r) : zL T r 20 15360 := by
  unfold fX5_gainsWithout at h
  obtain ⟨r1, hc, h⟩ := zb1_elim h
  split at h
  · obtain ⟨r4, hc4, h⟩ := zb1_elim h
    split at h
    · cases h; first | exact h0.2.2.2.2.2.1 | exact h0.2.2.2.2.2.2.1
    · cases h; first | exact h0.2.2.2.2.2.1 | exact h0.2.2.2.2.2.2.1
  · cases h; first | exact h0.2.2.2.2.2.1 | exact h0.2.2.2.2.2.2.1
/-! X5_pass -/
noncomputable def fX5_pass_b63 (T : zT) (k0 : Nat) (k1 : Nat) (n1 : Nat) (x2 : Int32) (k4 : Nat) (n4 : Nat) (x5 : Int32) (x6 : Int32) (S : zS) : Option ((Int32 × zS) ⊕ zS) :=
  zlet (x6 + 1) fun u6 => some (.inl (u6, S))
noncomputable def fX5_pass_l27 (T : zT) (k0 : Nat) (k1 : Nat) (n1 : Nat) (x2 : Int32) (k4 : Nat) (n4 : Nat) (x5 : Int32) (x6 : Int32) (S : zS) : Option ((Int32 × zS) ⊕ zS) :=
  if 8 ≤ x6 then some (.inr S) else if ((x5 >>> (x6 &&& 31)) &&& 1) = 0 then fX5_pass_b63 T k0 k1 n1 x2 k4 n4 x5 x6 S else zb1 (fX0_firstOwed T (zr T k0 0) x6 x2 S) fun r7 => zb (fX5_fetchAnywhere T k0 k1 n1 (1 <<< (x6 &&& 31)) r7 S) fun _ S11 => fX5_pass_b63 T k0 k1 n1 x2 k4 n4 x5 x6 S11
noncomputable def fX5_pass_b138 (T : zT) (k0 : Nat) (k1 : Nat) (n1 : Nat) (k4 : Nat) (n4 : Nat) (x6 : Int32) (x7 : Int32) (S : zS) : Option ((Int32 × zS) ⊕ zS) :=
  zlet (x7 + 1) fun u19 => some (.inl (u19, S))
noncomputable def fX5_pass_l79 (T : zT) (k0 : Nat) (k1 : Nat) (n1 : Nat) (k4 : Nat) (n4 : Nat) (x6 : Int32) (x7 : Int32) (S : zS) : Option ((Int32 × zS) ⊕ zS) :=
  if (S.1 (zr T k0 0) 0) < x7 then some (.inr S) else if 256 ≤ x7 then some (.inr S) else if (Int32.ofNat n4) ≤ (x6 + x7) then some (.inr S) else zgd (zin x7 n1) (if (S.1 k1 (x7 : Int32).toNatClampNeg) < 0 then fX5_pass_b138 T k0 k1 n1 k4 n4 x6 x7 S else zgd (zin x7 n1) (zgd (zin (x6 + x7) n4) (zlet (if (-1) < ((S.1 k1 (x7 : Int32).toNatClampNeg) + (S.1 k4 ((x6 + x7) : Int32).toNatClampNeg)) then ((S.1 k1 (x7 : Int32).toNatClampNeg) + (S.1 k4 ((x6 + x7) : Int32).toNatClampNeg)) else (-1)) fun u22 => zgd (zin x7 n1) (zlet (zI S k1 (x7 : Int32).toNatClampNeg u22) fun S24 => fX5_pass_b138 T k0 k1 n1 k4 n4 x6 x7 S24))))
noncomputable def fX5_pass_b144 (T : zT)  (S : zS) : Option (Unit × zS) :=
  some ((), S)
noncomputable def fX5_pass (T : zT) (k0 : Nat) (k1 : Nat) (n1 : Nat) (x2 : Int32) (x3 : Int32) (k4 : Nat) (n4 : Nat) (S : zS) : Option (Unit × zS) :=
  zb1 (fX0_lostBy T (zr T k0 0) x2 S) fun r1 => zlet (((S.1 (zr T k0 0) 0) &&& (r1 ^^^ (-1))) &&& (x3 ^^^ (-1))) fun u3 => zb1 (lp (fun a => fX5_pass_l27 T k0 k1 n1 x2 k4 n4 u3 a.1 a.2) (0, S)) fun e12 => zlet (x2 * 256) fun u13 => zb1 (lp (fun a => fX5_pass_l79 T k0 k1 n1 k4 n4 u13 a.1 a.2) (0, e12)) fun e25 => fX5_pass_b144 T  e25
set_option maxHeartbeats 4000000 in
set_option maxRecDepth 100000 in
theorem tX5_pass_b63 (T : zT) (k0 : Nat) (k1 : Nat) (n1 : Nat) (x2 : Int32) (k4 : Nat) (n4 : Nat) (x5 : Int32) (x6 : Int32) (S : zS) (h0 : iX5 T k0) (h1 : zL T k1 20 n1) (h4 : zL T k4 20 n4) {g : zG} {v : Option Value} {S' : zS} (r : ((Int32 × zS) ⊕ zS)) (h : fX5_pass_b63 T k0 k1 n1 x2 k4 n4 x5 x6 S = some r) (K1 : ∀ a : (Int32 × zS), r = .inl a → zg g 2 mX5_pass T 27 [some (.ref k0), some (.ref k1), some (.int x2), none, some (.ref k4), some (.int x5), some (.int a.1), none] [] T a.2 v T S') (K2_0 : ∀ e : zS, r = .inr e → zg g 2 mX5_pass T 69 [some (.ref k0), some (.ref k1), some (.int x2), none, some (.ref k4), none, none, none] [] T e v T S') : zg g 2 mX5_pass T 63 [some (.ref k0), some (.ref k1), some (.int x2), none, some (.ref k4), some (.int x5), some (.int x6), none] [] T S v T S' := by
  unfold fX5_pass_b63 at h
  obtain ⟨u6, eu6, h⟩ := zlet_elim h
  refine z_iinc (r := u6) dX5_pass_63 rfl (by rw [eu6, cI_1]) rfl (by decide) rfl ?_
  refine z_goto (tgt := 27) dX5_pass_66 (by decide) ?_
  cases h
  exact z_mask [true, true, true, false, true, true, true, false] rfl (K1 _ rfl)
set_option maxHeartbeats 4000000 in
set_option maxRecDepth 100000 in
theorem tX5_pass_l27b (T : zT) (k0 : Nat) (k1 : Nat) (n1 : Nat) (x2 : Int32) (k4 : Nat) (n4 : Nat) (x5 : Int32) (x6 : Int32) (S : zS) (h0 : iX5 T k0) (h1 : zL T k1 20 n1) (h4 : zL T k4 20 n4) {g : zG} {v : Option Value} {S' : zS} (r : (Int32 × zS) ⊕ zS) (h : fX5_pass_l27 T k0 k1 n1 x2 k4 n4 x5 x6 S = some r) (K1 : ∀ a : (Int32 × zS), r = .inl a → zg g 2 mX5_pass T 27 [some (.ref k0), some (.ref k1), some (.int x2), none, some (.ref k4), some (.int x5), some (.int a.1), none] [] T a.2 v T S') (K2_0 : ∀ e : zS, r = .inr e → zg g 2 mX5_pass T 69 [some (.ref k0), some (.ref k1), some (.int x2), none, some (.ref k4), none, none, none] [] T e v T S') : zg g 2 mX5_pass T 27 [some (.ref k0), some (.ref k1), some (.int x2), none, some (.ref k4), some (.int x5), some (.int x6), none] [] T S v T S' := by
  unfold fX5_pass_l27 at h
  refine z_iload dX5_pass_27 rfl ?_
  refine z_bipush dX5_pass_29 cB_8 ?_
  refine z_icmp_ge (tgt := 69) dX5_pass_31 (by decide) (fun q4 => ?_) (fun q4 => ?_)
  · rw [if_pos q4] at h
    cases h
    exact z_mask [true, true, true, false, true, false, false, false] rfl (K2_0 _ rfl)
  · rw [if_neg q4] at h
    refine z_iload dX5_pass_34 rfl ?_
    refine z_iload dX5_pass_36 rfl ?_
    refine z_ishr dX5_pass_38 rfl ?_
    refine z_iconst dX5_pass_39 cI_1 ?_
    refine z_iand dX5_pass_40 rfl ?_
    refine z_if_eq (tgt := 63) dX5_pass_41 (by decide) (fun q5 => ?_) (fun q5 => ?_)
    · rw [if_pos q5] at h
      exact z_mask [true, true, true, false, true, true, true, false] rfl (tX5_pass_b63 T k0 k1 n1 x2 k4 n4 x5 x6 S h0 h1 h4 r h K1 K2_0)
    · rw [if_neg q5] at h
      refine z_aload_n dX5_pass_44 rfl ?_
      refine z_aload_n dX5_pass_45 rfl ?_
      refine z_iconst dX5_pass_46 cI_1 ?_
      refine z_iload dX5_pass_47 rfl ?_
      refine z_ishl dX5_pass_49 rfl ?_
      refine z_aload_n dX5_pass_50 rfl ?_
      refine z_gR (zF.x zfX5_9) h0.1 dX5_pass_51 ?_
      refine z_iload dX5_pass_54 rfl ?_
      refine z_iload_n dX5_pass_56 rfl ?_
      obtain ⟨r7, hc8, h⟩ := zb1_elim h
      refine z_callV (As := [.int x6, .int x2]) zcX0 zkX5_158 ziX0_firstOwed zqX0_firstOwed h0.2.1.1 (tX0_firstOwed T (zr T k0 0) x6 x2 S h0.2.1 r7 hc8) rfl rfl (Nat.le_of_ble_eq_true rfl) (by decide) ⟨Nat.le_refl _, Nat.le_refl _⟩ ⟨Nat.le_refl _, Nat.le_refl _⟩ dX5_pass_57 ?_
      obtain ⟨r9, S11, hc10, h⟩ := zb_elim h
      refine z_callV (As := [.ref k1, .int (1 <<< (x6 &&& 31)), .int r7]) zcX5 zkX5_161 ziX5_fetchAnywhere zqX5_fetchAnywhere h0.1 (tX5_fetchAnywhere T k0 k1 n1 (1 <<< (x6 &&& 31)) r7 S h0 h1 (r9, S11) hc10) rfl rfl (Nat.le_of_ble_eq_true rfl) (by decide) ⟨Nat.le_refl _, Nat.le_refl _⟩ ⟨Nat.le_refl _, Nat.le_refl _⟩ dX5_pass_60 ?_
      exact z_mask [true, true, true, false, true, true, true, false] rfl (tX5_pass_b63 T k0 k1 n1 x2 k4 n4 x5 x6 S11 h0 h1 h4 r h K1 K2_0)
set_option maxHeartbeats 4000000 in
set_option maxRecDepth 100000 in
theorem tX5_pass_l27 (T : zT) (k0 : Nat) (k1 : Nat) (n1 : Nat) (x2 : Int32) (k4 : Nat) (n4 : Nat) (x5 : Int32) (h0 : iX5 T k0) (h1 : zL T k1 20 n1) (h4 : zL T k4 20 n4) {g : zG} {v : Option Value} {S' : zS} : ∀ (n : Nat) (a : (Int32 × zS)) (e : zS), lpn (fun a => fX5_pass_l27 T k0 k1 n1 x2 k4 n4 x5 a.1 a.2) n a = some e → (∀ e1 : zS, e = e1 → zg g 2 mX5_pass T 69 [some (.ref k0), some (.ref k1), some (.int x2), none, some (.ref k4), none, none, none] [] T e1 v T S') → zg g 2 mX5_pass T 27 [some (.ref k0), some (.ref k1), some (.int x2), none, some (.ref k4), some (.int x5), some (.int a.1), none] [] T a.2 v T S' := by
  intro n
  induction n with
  | zero =>
    intro a e h
    cases h
  | succ n ih =>
    intro a e h k0_
    rcases lpn_succ h with ⟨a1, ha_, hb_⟩ | ha_
    · exact tX5_pass_l27b T k0 k1 n1 x2 k4 n4 x5 a.1 a.2 h0 h1 h4 _ ha_ (fun a2 q => by cases q; exact ih a1 e hb_ k0_) (fun e1 q => by cases q)
    · exact tX5_pass_l27b T k0 k1 n1 x2 k4 n4 x5 a.1 a.2 h0 h1 h4 _ ha_ (fun a2 q => by cases q) (fun e1 q => by cases q; exact k0_ _ rfl)
set_option maxHeartbeats 4000000 in
set_option maxRecDepth 100000 in
theorem tX5_pass_b138 (T : zT) (k0 : Nat) (k1 : Nat) (n1 : Nat) (k4 : Nat) (n4 : Nat) (x6 : Int32) (x7 : Int32) (S : zS) (h0 : iX5 T k0) (h1 : zL T k1 20 n1) (h4 : zL T k4 20 n4) {g : zG} {v : Option Value} {S' : zS} (r : ((Int32 × zS) ⊕ zS)) (h : fX5_pass_b138 T k0 k1 n1 k4 n4 x6 x7 S = some r) (K1 : ∀ a : (Int32 × zS), r = .inl a → zg g 2 mX5_pass T 79 [some (.ref k0), some (.ref k1), none, none, some (.ref k4), none, some (.int x6), some (.int a.1)] [] T a.2 v T S') (K2_0 : ∀ e : zS, r = .inr e → zg g 2 mX5_pass T 144 [none, none, none, none, none, none, none, none] [] T e v T S') : zg g 2 mX5_pass T 138 [some (.ref k0), some (.ref k1), none, none, some (.ref k4), none, some (.int x6), some (.int x7)] [] T S v T S' := by
  unfold fX5_pass_b138 at h
  obtain ⟨u19, eu19, h⟩ := zlet_elim h
  refine z_iinc (r := u19) dX5_pass_138 rfl (by rw [eu19, cI_1]) rfl (by decide) rfl ?_
  refine z_goto (tgt := 79) dX5_pass_141 (by decide) ?_
  cases h
  exact z_mask [true, true, false, false, true, false, true, true] rfl (K1 _ rfl)
set_option maxHeartbeats 4000000 in
set_option maxRecDepth 100000 in
theorem tX5_pass_l79b (T : zT) (k0 : Nat) (k1 : Nat) (n1 : Nat) (k4 : Nat) (n4 : Nat) (x6 : Int32) (x7 : Int32) (S : zS) (h0 : iX5 T k0) (h1 : zL T k1 20 n1) (h4 : zL T k4 20 n4) {g : zG} {v : Option Value} {S' : zS} (r : (Int32 × zS) ⊕ zS) (h : fX5_pass_l79 T k0 k1 n1 k4 n4 x6 x7 S = some r) (K1 : ∀ a : (Int32 × zS), r = .inl a → zg g 2 mX5_pass T 79 [some (.ref k0), some (.ref k1), none, none, some (.ref k4), none, some (.int x6), some (.int a.1)] [] T a.2 v T S') (K2_0 : ∀ e : zS, r = .inr e → zg g 2 mX5_pass T 144 [none, none, none, none, none, none, none, none] [] T e v T S') : zg g 2 mX5_pass T 79 [some (.ref k0), some (.ref k1), none, none, some (.ref k4), none, some (.int x6), some (.int x7)] [] T S v T S' := by
  unfold fX5_pass_l79 at h
  refine z_iload dX5_pass_79 rfl ?_
  refine z_aload_n dX5_pass_81 rfl ?_
  refine z_gR (zF.x zfX5_9) h0.1 dX5_pass_82 ?_
  refine z_gI (zF.x zfX5_111) h0.2.1.1 dX5_pass_85 ?_
  refine z_icmp_gt (tgt := 144) dX5_pass_88 (by decide) (fun q14 => ?_) (fun q14 => ?_)
  · rw [if_pos q14] at h
    cases h
    exact z_mask [false, false, false, false, false, false, false, false] rfl (K2_0 _ rfl)
  · rw [if_neg q14] at h
    refine z_iload dX5_pass_91 rfl ?_
    refine z_sipush dX5_pass_93 cS_256 ?_
    refine z_icmp_ge (tgt := 144) dX5_pass_96 (by decide) (fun q15 => ?_) (fun q15 => ?_)
    · rw [if_pos q15] at h
      cases h
      exact z_mask [false, false, false, false, false, false, false, false] rfl (K2_0 _ rfl)
    · rw [if_neg q15] at h
      refine z_iload dX5_pass_99 rfl ?_
      refine z_iload dX5_pass_101 rfl ?_
      refine z_iadd dX5_pass_103 rfl ?_
      refine z_aload dX5_pass_104 rfl ?_
      refine z_alenI h4 (by decide) dX5_pass_106 ?_
      refine z_icmp_ge (tgt := 144) dX5_pass_107 (by decide) (fun q16 => ?_) (fun q16 => ?_)
      · rw [if_pos q16] at h
        cases h
        exact z_mask [false, false, false, false, false, false, false, false] rfl (K2_0 _ rfl)
      · rw [if_neg q16] at h
        refine z_aload_n dX5_pass_110 rfl ?_
        refine z_iload dX5_pass_111 rfl ?_
        obtain ⟨q17, h⟩ := zgd_elim h
        refine z_iald h1 (zin_ok q17) dX5_pass_113 ?_
        refine z_if_lt (tgt := 138) dX5_pass_114 (by decide) (fun q18 => ?_) (fun q18 => ?_)
        · rw [if_pos q18] at h
          exact z_mask [true, true, false, false, true, false, true, true] rfl (tX5_pass_b138 T k0 k1 n1 k4 n4 x6 x7 S h0 h1 h4 r h K1 K2_0)
        · rw [if_neg q18] at h
          refine z_aload_n dX5_pass_117 rfl ?_
          refine z_iload dX5_pass_118 rfl ?_
          refine z_iconst dX5_pass_120 cI_m1 ?_
          refine z_aload_n dX5_pass_121 rfl ?_
          refine z_iload dX5_pass_122 rfl ?_
          obtain ⟨q20, h⟩ := zgd_elim h
          refine z_iald h1 (zin_ok q20) dX5_pass_124 ?_
          refine z_aload dX5_pass_125 rfl ?_
          refine z_iload dX5_pass_127 rfl ?_
          refine z_iload dX5_pass_129 rfl ?_
          refine z_iadd dX5_pass_131 rfl ?_
          obtain ⟨q21, h⟩ := zgd_elim h
          refine z_iald h4 (zin_ok q21) dX5_pass_132 ?_
          refine z_iadd dX5_pass_133 rfl ?_
          refine z_mmax zxX5_127 zmmax_static zjJ9 zmmax_code rfl (by decide) (Nat.le_of_ble_eq_true rfl) ⟨Nat.le_refl _, Nat.le_refl _⟩ dX5_pass_134 ?_
          obtain ⟨u22, eu22, h⟩ := zlet_elim h
          refine z_ti eu22 ?_
          obtain ⟨q23, h⟩ := zgd_elim h
          refine z_iast h1 (zin_ok q23) dX5_pass_137 ?_
          obtain ⟨S24, eS24, h⟩ := zlet_elim h
          refine z_tS eS24 ?_
          exact z_mask [true, true, false, false, true, false, true, true] rfl (tX5_pass_b138 T k0 k1 n1 k4 n4 x6 x7 S24 h0 h1 h4 r h K1 K2_0)
set_option maxHeartbeats 4000000 in
set_option maxRecDepth 100000 in
theorem tX5_pass_l79 (T : zT) (k0 : Nat) (k1 : Nat) (n1 : Nat) (k4 : Nat) (n4 : Nat) (x6 : Int32) (h0 : iX5 T k0) (h1 : zL T k1 20 n1) (h4 : zL T k4 20 n4) {g : zG} {v : Option Value} {S' : zS} : ∀ (n : Nat) (a : (Int32 × zS)) (e : zS), lpn (fun a => fX5_pass_l79 T k0 k1 n1 k4 n4 x6 a.1 a.2) n a = some e → (∀ e1 : zS, e = e1 → zg g 2 mX5_pass T 144 [none, none, none, none, none, none, none, none] [] T e1 v T S') → zg g 2 mX5_pass T 79 [some (.ref k0), some (.ref k1), none, none, some (.ref k4), none, some (.int x6), some (.int a.1)] [] T a.2 v T S' := by
  intro n
  induction n with
  | zero =>
    intro a e h
    cases h
  | succ n ih =>
    intro a e h k0_
    rcases lpn_succ h with ⟨a1, ha_, hb_⟩ | ha_
    · exact tX5_pass_l79b T k0 k1 n1 k4 n4 x6 a.1 a.2 h0 h1 h4 _ ha_ (fun a2 q => by cases q; exact ih a1 e hb_ k0_) (fun e1 q => by cases q)
    · exact tX5_pass_l79b T k0 k1 n1 k4 n4 x6 a.1 a.2 h0 h1 h4 _ ha_ (fun a2 q => by cases q) (fun e1 q => by cases q; exact k0_ _ rfl)
set_option maxHeartbeats 4000000 in
set_option maxRecDepth 100000 in
theorem tX5_pass_b144 (T : zT)  (S : zS)  {g : zG} (r : (Unit × zS)) (h : fX5_pass_b144 T  S = some r)  : zg g 2 mX5_pass T 144 [none, none, none, none, none, none, none, none] [] T S none T r.2 := by
  unfold fX5_pass_b144 at h
  cases h
  exact z_vret rfl dX5_pass_144
set_option maxHeartbeats 4000000 in
set_option maxRecDepth 100000 in
theorem tX5_pass (T : zT) (k0 : Nat) (k1 : Nat) (n1 : Nat) (x2 : Int32) (x3 : Int32) (k4 : Nat) (n4 : Nat) (S : zS) (h0 : iX5 T k0) (h1 : zL T k1 20 n1) (h4 : zL T k4 20 n4) (r : Unit × zS) (h : fX5_pass T k0 k1 n1 x2 x3 k4 n4 S = some r) : zGM 2 mX5_pass [.ref k0, .ref k1, .int x2, .int x3, .ref k4] T S none T r.2 := by
  refine zGM_of zpnX5 rfl (Nat.le_of_ble_eq_true rfl) (fun g => ?_)
  show zg g 2 mX5_pass T 0 [some (.ref k0), some (.ref k1), some (.int x2), some (.int x3), some (.ref k4), none, none, none] [] T S none T r.2
  unfold fX5_pass at h
  refine z_aload_n dX5_pass_0 rfl ?_
  refine z_gR (zF.x zfX5_9) h0.1 dX5_pass_1 ?_
  refine z_gI (zF.x zfX5_111) h0.2.1.1 dX5_pass_4 ?_
  refine z_aload_n dX5_pass_7 rfl ?_
  refine z_gR (zF.x zfX5_9) h0.1 dX5_pass_8 ?_
  refine z_iload_n dX5_pass_11 rfl ?_
  obtain ⟨r1, hc2, h⟩ := zb1_elim h
  refine z_callV (As := [.int x2]) zcX0 zkX5_118 ziX0_lostBy zqX0_lostBy h0.2.1.1 (tX0_lostBy T (zr T k0 0) x2 S h0.2.1 r1 hc2) rfl rfl (Nat.le_of_ble_eq_true rfl) (by decide) ⟨Nat.le_refl _, Nat.le_refl _⟩ ⟨Nat.le_refl _, Nat.le_refl _⟩ dX5_pass_12 ?_
  refine z_iconst dX5_pass_15 cI_m1 ?_
  refine z_ixor dX5_pass_16 rfl ?_
  refine z_iand dX5_pass_17 rfl ?_
  refine z_iload_n dX5_pass_18 rfl ?_
  refine z_iconst dX5_pass_19 cI_m1 ?_
  refine z_ixor dX5_pass_20 rfl ?_
  refine z_iand dX5_pass_21 rfl ?_
  obtain ⟨u3, eu3, h⟩ := zlet_elim h
  refine z_ti eu3 ?_
  refine z_istore dX5_pass_22 rfl (by decide) rfl ?_
  refine z_iconst dX5_pass_24 cI_0 ?_
  refine z_istore dX5_pass_25 rfl (by decide) rfl ?_
  obtain ⟨e12, hl28, h⟩ := zb1_elim h
  obtain ⟨nf29, hl28⟩ := lp_some hl28
  refine z_mask [true, true, true, false, true, true, true, false] rfl (tX5_pass_l27 T k0 k1 n1 x2 k4 n4 u3 h0 h1 h4 nf29 (0, S) e12 hl28 (fun e_ q => ?_))
  · cases q
    refine z_iload_n dX5_pass_69 rfl ?_
    refine z_sipush dX5_pass_70 cS_256 ?_
    refine z_imul dX5_pass_73 rfl ?_
    obtain ⟨u13, eu13, h⟩ := zlet_elim h
    refine z_ti eu13 ?_
    refine z_istore dX5_pass_74 rfl (by decide) rfl ?_
    refine z_iconst dX5_pass_76 cI_0 ?_
    refine z_istore dX5_pass_77 rfl (by decide) rfl ?_
    obtain ⟨e25, hl26, h⟩ := zb1_elim h
    obtain ⟨nf27, hl26⟩ := lp_some hl26
    refine z_mask [true, true, false, false, true, false, true, true] rfl (tX5_pass_l79 T k0 k1 n1 k4 n4 u13 h0 h1 h4 nf27 (0, e12) e25 hl26 (fun e_ q => ?_))
    · cases q
      exact z_mask [false, false, false, false, false, false, false, false] rfl (tX5_pass_b144 T  e25  r h)
/-! X5_setAhead -/
noncomputable def fX5_setAhead_b109 (T : zT) (k0 : Nat) (x1 : Int32) (x2 : Int32) (x3 : Int32) (x4 : Int32) (x5 : Int32) (S : zS) : Option (Int32 ⊕ (Unit ⊕ Int32)) :=
  zlet (x5 + 1) fun u13 => some (.inl u13)
noncomputable def fX5_setAhead_l43 (T : zT) (k0 : Nat) (x1 : Int32) (x2 : Int32) (x3 : Int32) (x4 : Int32) (S : zS) (x5 : Int32) : Option (Int32 ⊕ (Unit ⊕ Int32)) :=
  if x2 ≤ x5 then some (.inr (.inl ())) else zb1 (fX5_coinAt T k0 (x1 - 1) x5 S) fun r9 => zlet (x2 &&& (x5 ^^^ (-1))) fun u11 => if (x5 &&& (x2 ^^^ (-1))) = 0 then if (u11 &&& (x3 ^^^ (-1))) = 0 then if r9 < 0 then fX5_setAhead_b109 T k0 x1 x2 x3 x4 x5 S else zb1 (fX5_costOf T k0 u11 x1 S) fun r16 => if (r9 - r16) = x4 then some (.inr (.inr x5)) else fX5_setAhead_b109 T k0 x1 x2 x3 x4 x5 S else fX5_setAhead_b109 T k0 x1 x2 x3 x4 x5 S else fX5_setAhead_b109 T k0 x1 x2 x3 x4 x5 S
noncomputable def fX5_setAhead (T : zT) (k0 : Nat) (x1 : Int32) (x2 : Int32) (S : zS) : Option Int32 :=
  zb1 (fX0_lostBy T (zr T k0 0) x1 S) fun r1 => zlet ((S.1 (zr T k0 0) 0) &&& (r1 ^^^ (-1))) fun u3 => zb1 (fX5_coinAt T k0 x1 x2 S) fun r4 => zgd (zin ((x1 * 256) + x2) 15360) (zlet (r4 - (S.1 (zr T k0 9) (((x1 * 256) + x2) : Int32).toNatClampNeg)) fun u7 => zb1 (lp (fun a => fX5_setAhead_l43 T k0 x1 x2 u3 u7 S a) 0) fun e19 => zsm e19 (fun e19_0 => some x2) (fun e19_1 => some e19_1))
set_option maxHeartbeats 4000000 in
set_option maxRecDepth 100000 in
theorem tX5_setAhead_b109 (T : zT) (k0 : Nat) (x1 : Int32) (x2 : Int32) (x3 : Int32) (x4 : Int32) (x5 : Int32) (S : zS) (h0 : iX5 T k0) {g : zG} {v : Option Value} {S' : zS} (r : (Int32 ⊕ (Unit ⊕ Int32))) (h : fX5_setAhead_b109 T k0 x1 x2 x3 x4 x5 S = some r) (K1 : ∀ a : Int32, r = .inl a → zg g 2 mX5_setAhead T 43 [some (.ref k0), some (.int x1), some (.int x2), some (.int x3), some (.int x4), some (.int a), none, none] [] T S v T S') (K2_0 : ∀ e : Unit, r = .inr (.inl e) → zg g 2 mX5_setAhead T 115 [none, none, some (.int x2), none, none, none, none, none] [] T S v T S') (K2_1 : ∀ e : Int32, r = .inr (.inr e) → zg g 2 mX5_setAhead T 106 [none, none, none, none, none, some (.int e), none, none] [] T S v T S') : zg g 2 mX5_setAhead T 109 [some (.ref k0), some (.int x1), some (.int x2), some (.int x3), some (.int x4), some (.int x5), none, none] [] T S v T S' := by
  unfold fX5_setAhead_b109 at h
  obtain ⟨u13, eu13, h⟩ := zlet_elim h
  refine z_iinc (r := u13) dX5_setAhead_109 rfl (by rw [eu13, cI_1]) rfl (by decide) rfl ?_
  refine z_goto (tgt := 43) dX5_setAhead_112 (by decide) ?_
  cases h
  exact z_mask [true, true, true, true, true, true, false, false] rfl (K1 _ rfl)
set_option maxHeartbeats 4000000 in
set_option maxRecDepth 100000 in
theorem tX5_setAhead_l43b (T : zT) (k0 : Nat) (x1 : Int32) (x2 : Int32) (x3 : Int32) (x4 : Int32) (S : zS) (x5 : Int32) (h0 : iX5 T k0) {g : zG} {v : Option Value} {S' : zS} (r : Int32 ⊕ (Unit ⊕ Int32)) (h : fX5_setAhead_l43 T k0 x1 x2 x3 x4 S x5 = some r) (K1 : ∀ a : Int32, r = .inl a → zg g 2 mX5_setAhead T 43 [some (.ref k0), some (.int x1), some (.int x2), some (.int x3), some (.int x4), some (.int a), none, none] [] T S v T S') (K2_0 : ∀ e : Unit, r = .inr (.inl e) → zg g 2 mX5_setAhead T 115 [none, none, some (.int x2), none, none, none, none, none] [] T S v T S') (K2_1 : ∀ e : Int32, r = .inr (.inr e) → zg g 2 mX5_setAhead T 106 [none, none, none, none, none, some (.int e), none, none] [] T S v T S') : zg g 2 mX5_setAhead T 43 [some (.ref k0), some (.int x1), some (.int x2), some (.int x3), some (.int x4), some (.int x5), none, none] [] T S v T S' := by
  unfold fX5_setAhead_l43 at h
  refine z_iload dX5_setAhead_43 rfl ?_
  refine z_iload_n dX5_setAhead_45 rfl ?_
  refine z_icmp_ge (tgt := 115) dX5_setAhead_46 (by decide) (fun q8 => ?_) (fun q8 => ?_)
  · rw [if_pos q8] at h
    cases h
    exact z_mask [false, false, true, false, false, false, false, false] rfl (K2_0 _ rfl)
  · rw [if_neg q8] at h
    refine z_aload_n dX5_setAhead_49 rfl ?_
    refine z_iload_n dX5_setAhead_50 rfl ?_
    refine z_iconst dX5_setAhead_51 cI_1 ?_
    refine z_isub dX5_setAhead_52 rfl ?_
    refine z_iload dX5_setAhead_53 rfl ?_
    obtain ⟨r9, hc10, h⟩ := zb1_elim h
    refine z_callV (As := [.int (x1 - 1), .int x5]) zcX5 zkX5_170 ziX5_coinAt zqX5_coinAt h0.1 (tX5_coinAt T k0 (x1 - 1) x5 S h0 r9 hc10) rfl rfl (Nat.le_of_ble_eq_true rfl) (by decide) ⟨Nat.le_refl _, Nat.le_refl _⟩ ⟨Nat.le_refl _, Nat.le_refl _⟩ dX5_setAhead_55 ?_
    refine z_istore dX5_setAhead_58 rfl (by decide) rfl ?_
    refine z_iload_n dX5_setAhead_60 rfl ?_
    refine z_iload dX5_setAhead_61 rfl ?_
    refine z_iconst dX5_setAhead_63 cI_m1 ?_
    refine z_ixor dX5_setAhead_64 rfl ?_
    refine z_iand dX5_setAhead_65 rfl ?_
    obtain ⟨u11, eu11, h⟩ := zlet_elim h
    refine z_ti eu11 ?_
    refine z_istore dX5_setAhead_66 rfl (by decide) rfl ?_
    refine z_iload dX5_setAhead_68 rfl ?_
    refine z_iload_n dX5_setAhead_70 rfl ?_
    refine z_iconst dX5_setAhead_71 cI_m1 ?_
    refine z_ixor dX5_setAhead_72 rfl ?_
    refine z_iand dX5_setAhead_73 rfl ?_
    refine z_if_ne (tgt := 109) dX5_setAhead_74 (by decide) (fun q12 => ?_) (fun q12 => ?_)
    · rw [if_neg q12] at h
      exact z_mask [true, true, true, true, true, true, false, false] rfl (tX5_setAhead_b109 T k0 x1 x2 x3 x4 x5 S h0 r h K1 K2_0 K2_1)
    · rw [if_pos q12] at h
      refine z_iload dX5_setAhead_77 rfl ?_
      refine z_iload_n dX5_setAhead_79 rfl ?_
      refine z_iconst dX5_setAhead_80 cI_m1 ?_
      refine z_ixor dX5_setAhead_81 rfl ?_
      refine z_iand dX5_setAhead_82 rfl ?_
      refine z_if_ne (tgt := 109) dX5_setAhead_83 (by decide) (fun q14 => ?_) (fun q14 => ?_)
      · rw [if_neg q14] at h
        exact z_mask [true, true, true, true, true, true, false, false] rfl (tX5_setAhead_b109 T k0 x1 x2 x3 x4 x5 S h0 r h K1 K2_0 K2_1)
      · rw [if_pos q14] at h
        refine z_iload dX5_setAhead_86 rfl ?_
        refine z_if_lt (tgt := 109) dX5_setAhead_88 (by decide) (fun q15 => ?_) (fun q15 => ?_)
        · rw [if_pos q15] at h
          exact z_mask [true, true, true, true, true, true, false, false] rfl (tX5_setAhead_b109 T k0 x1 x2 x3 x4 x5 S h0 r h K1 K2_0 K2_1)
        · rw [if_neg q15] at h
          refine z_iload dX5_setAhead_91 rfl ?_
          refine z_aload_n dX5_setAhead_93 rfl ?_
          refine z_iload dX5_setAhead_94 rfl ?_
          refine z_iload_n dX5_setAhead_96 rfl ?_
          obtain ⟨r16, hc17, h⟩ := zb1_elim h
          refine z_callV (As := [.int u11, .int x1]) zcX5 zkX5_173 ziX5_costOf zqX5_costOf h0.1 (tX5_costOf T k0 u11 x1 S h0 r16 hc17) rfl rfl (Nat.le_of_ble_eq_true rfl) (by decide) ⟨Nat.le_refl _, Nat.le_refl _⟩ ⟨Nat.le_refl _, Nat.le_refl _⟩ dX5_setAhead_97 ?_
          refine z_isub dX5_setAhead_100 rfl ?_
          refine z_iload dX5_setAhead_101 rfl ?_
          refine z_icmp_ne (tgt := 109) dX5_setAhead_103 (by decide) (fun q18 => ?_) (fun q18 => ?_)
          · rw [if_neg q18] at h
            exact z_mask [true, true, true, true, true, true, false, false] rfl (tX5_setAhead_b109 T k0 x1 x2 x3 x4 x5 S h0 r h K1 K2_0 K2_1)
          · rw [if_pos q18] at h
            cases h
            exact z_mask [false, false, false, false, false, true, false, false] rfl (K2_1 _ rfl)
set_option maxHeartbeats 4000000 in
set_option maxRecDepth 100000 in
theorem tX5_setAhead_l43 (T : zT) (k0 : Nat) (x1 : Int32) (x2 : Int32) (x3 : Int32) (x4 : Int32) (S : zS) (h0 : iX5 T k0) {g : zG} {v : Option Value} {S' : zS} : ∀ (n : Nat) (a : Int32) (e : (Unit ⊕ Int32)), lpn (fun a => fX5_setAhead_l43 T k0 x1 x2 x3 x4 S a) n a = some e → (∀ e1 : Unit, e = (.inl e1) → zg g 2 mX5_setAhead T 115 [none, none, some (.int x2), none, none, none, none, none] [] T S v T S') → (∀ e1 : Int32, e = (.inr e1) → zg g 2 mX5_setAhead T 106 [none, none, none, none, none, some (.int e1), none, none] [] T S v T S') → zg g 2 mX5_setAhead T 43 [some (.ref k0), some (.int x1), some (.int x2), some (.int x3), some (.int x4), some (.int a), none, none] [] T S v T S' := by
  intro n
  induction n with
  | zero =>
    intro a e h
    cases h
  | succ n ih =>
    intro a e h k0_ k1_
    rcases lpn_succ h with ⟨a1, ha_, hb_⟩ | ha_
    · exact tX5_setAhead_l43b T k0 x1 x2 x3 x4 S a h0 _ ha_ (fun a2 q => by cases q; exact ih a1 e hb_ k0_ k1_) (fun e1 q => by cases q) (fun e1 q => by cases q)
    · exact tX5_setAhead_l43b T k0 x1 x2 x3 x4 S a h0 _ ha_ (fun a2 q => by cases q) (fun e1 q => by cases q; exact k0_ _ rfl) (fun e1 q => by cases q; exact k1_ _ rfl)
set_option maxHeartbeats 4000000 in
set_option maxRecDepth 100000 in
theorem tX5_setAhead (T : zT) (k0 : Nat) (x1 : Int32) (x2 : Int32) (S : zS) (h0 : iX5 T k0) (r : Int32) (h : fX5_setAhead T k0 x1 x2 S = some r) : zGM 2 mX5_setAhead [.ref k0, .int x1, .int x2] T S (some (.int r)) T S := by
  refine zGM_of zpnX5 rfl (Nat.le_of_ble_eq_true rfl) (fun g => ?_)
  show zg g 2 mX5_setAhead T 0 [some (.ref k0), some (.int x1), some (.int x2), none, none, none, none, none] [] T S (some (.int r)) T S
  unfold fX5_setAhead at h
  refine z_aload_n dX5_setAhead_0 rfl ?_
  refine z_gR (zF.x zfX5_9) h0.1 dX5_setAhead_1 ?_
  refine z_gI (zF.x zfX5_111) h0.2.1.1 dX5_setAhead_4 ?_
  refine z_aload_n dX5_setAhead_7 rfl ?_
  refine z_gR (zF.x zfX5_9) h0.1 dX5_setAhead_8 ?_
  refine z_iload_n dX5_setAhead_11 rfl ?_
  obtain ⟨r1, hc2, h⟩ := zb1_elim h
  refine z_callV (As := [.int x1]) zcX0 zkX5_118 ziX0_lostBy zqX0_lostBy h0.2.1.1 (tX0_lostBy T (zr T k0 0) x1 S h0.2.1 r1 hc2) rfl rfl (Nat.le_of_ble_eq_true rfl) (by decide) ⟨Nat.le_refl _, Nat.le_refl _⟩ ⟨Nat.le_refl _, Nat.le_refl _⟩ dX5_setAhead_12 ?_
  refine z_iconst dX5_setAhead_15 cI_m1 ?_
  refine z_ixor dX5_setAhead_16 rfl ?_
  refine z_iand dX5_setAhead_17 rfl ?_
  obtain ⟨u3, eu3, h⟩ := zlet_elim h
  refine z_ti eu3 ?_
  refine z_istore_n dX5_setAhead_18 rfl (by decide) rfl ?_
  refine z_aload_n dX5_setAhead_19 rfl ?_
  refine z_iload_n dX5_setAhead_20 rfl ?_
  refine z_iload_n dX5_setAhead_21 rfl ?_
  obtain ⟨r4, hc5, h⟩ := zb1_elim h
  refine z_callV (As := [.int x1, .int x2]) zcX5 zkX5_170 ziX5_coinAt zqX5_coinAt h0.1 (tX5_coinAt T k0 x1 x2 S h0 r4 hc5) rfl rfl (Nat.le_of_ble_eq_true rfl) (by decide) ⟨Nat.le_refl _, Nat.le_refl _⟩ ⟨Nat.le_refl _, Nat.le_refl _⟩ dX5_setAhead_22 ?_
  refine z_aload_n dX5_setAhead_25 rfl ?_
  refine z_gA (zF.x zfX5_26) h0.1 dX5_setAhead_26 ?_
  refine z_iload_n dX5_setAhead_29 rfl ?_
  refine z_sipush dX5_setAhead_30 cS_256 ?_
  refine z_imul dX5_setAhead_33 rfl ?_
  refine z_iload_n dX5_setAhead_34 rfl ?_
  refine z_iadd dX5_setAhead_35 rfl ?_
  obtain ⟨q6, h⟩ := zgd_elim h
  refine z_iald h0.2.2.2.2.2.1 (zin_ok q6) dX5_setAhead_36 ?_
  refine z_isub dX5_setAhead_37 rfl ?_
  obtain ⟨u7, eu7, h⟩ := zlet_elim h
  refine z_ti eu7 ?_
  refine z_istore dX5_setAhead_38 rfl (by decide) rfl ?_
  refine z_iconst dX5_setAhead_40 cI_0 ?_
  refine z_istore dX5_setAhead_41 rfl (by decide) rfl ?_
  obtain ⟨e19, hl20, h⟩ := zb1_elim h
  obtain ⟨nf21, hl20⟩ := lp_some hl20
  refine z_mask [true, true, true, true, true, true, false, false] rfl (tX5_setAhead_l43 T k0 x1 x2 u3 u7 S h0 nf21 0 e19 hl20 (fun e19_0 q => ?_) (fun e19_1 q => ?_))
  · cases q
    replace h := zsm_l h
    refine z_iload_n dX5_setAhead_115 rfl ?_
    cases h
    exact z_iret rfl dX5_setAhead_116
  · cases q
    replace h := zsm_r h
    refine z_iload dX5_setAhead_106 rfl ?_
    cases h
    exact z_iret rfl dX5_setAhead_108
/-! X5_fillHolding -/
noncomputable def fX5_fillHolding_l10 (T : zT) (k0 : Nat) (x1 : Int32) (x2 : Int32) (x3 : Int32) (S : zS) : Option ((Int32 × zS) ⊕ zS) :=
  if 8 < (x3 + x2) then some (.inr S) else zgd (zin 19 26) (zlet (zJ S (zr T (zr T k0 1) 0) (19 : Int32).toNatClampNeg ((x1 : Int32).toInt64)) fun S4 => zgd (zin 20 26) (zlet (zJ S4 (zr T (zr T k0 1) 0) (20 : Int32).toNatClampNeg ((x2 : Int32).toInt64)) fun S6 => zgd (zin 21 26) (zlet (zJ S6 (zr T (zr T k0 1) 0) (21 : Int32).toNatClampNeg ((x3 : Int32).toInt64)) fun S8 => zb (fX1_holding T (zr T (zr T k0 0) 12) (zr T (zr T k0 0) 14) (zr T k0 1) S8) fun r9 S11 => zgd (zin ((x2 * 9) + x3) 81) (zlet (zI S11 (zr T k0 13) (((x2 * 9) + x3) : Int32).toNatClampNeg r9) fun S13 => zb (fX1_holding T (zr T (zr T k0 0) 13) (zr T (zr T k0 0) 14) (zr T k0 1) S13) fun r14 S16 => zgd (zin ((x2 * 9) + x3) 81) (zlet (zI S16 (zr T k0 14) (((x2 * 9) + x3) : Int32).toNatClampNeg r14) fun S18 => zlet (x3 + 1) fun u19 => some (.inl (u19, S18)))))))
noncomputable def fX5_fillHolding_l2 (T : zT) (k0 : Nat) (x1 : Int32) (x2 : Int32) (S : zS) : Option ((Int32 × zS) ⊕ zS) :=
  if 8 < x2 then some (.inr S) else zb1 (lp (fun a => fX5_fillHolding_l10 T k0 x1 x2 a.1 a.2) (0, S)) fun e20 => zlet (x2 + 1) fun u21 => some (.inl (u21, e20))
noncomputable def fX5_fillHolding (T : zT) (k0 : Nat) (x1 : Int32) (S : zS) : Option (Unit × zS) :=
  zb1 (lp (fun a => fX5_fillHolding_l2 T k0 x1 a.1 a.2) (0, S)) fun e24 => some ((), e24)
set_option maxHeartbeats 4000000 in
set_option maxRecDepth 100000 in
theorem tX5_fillHolding_l10b (T : zT) (k0 : Nat) (x1 : Int32) (x2 : Int32) (x3 : Int32) (S : zS) (h0 : iX5 T k0) {g : zG} {v : Option Value} {S' : zS} (r : (Int32 × zS) ⊕ zS) (h : fX5_fillHolding_l10 T k0 x1 x2 x3 S = some r) (K1 : ∀ a : (Int32 × zS), r = .inl a → zg g 3 mX5_fillHolding T 10 [some (.ref k0), some (.int x1), some (.int x2), some (.int a.1)] [] T a.2 v T S') (K2_0 : ∀ e : zS, r = .inr e → zg g 3 mX5_fillHolding T 124 [some (.ref k0), some (.int x1), some (.int x2), none] [] T e v T S') : zg g 3 mX5_fillHolding T 10 [some (.ref k0), some (.int x1), some (.int x2), some (.int x3)] [] T S v T S' := by
  unfold fX5_fillHolding_l10 at h
  refine z_iload_n dX5_fillHolding_10 rfl ?_
  refine z_iload_n dX5_fillHolding_11 rfl ?_
  refine z_iadd dX5_fillHolding_12 rfl ?_
  refine z_bipush dX5_fillHolding_13 cB_8 ?_
  refine z_icmp_gt (tgt := 124) dX5_fillHolding_15 (by decide) (fun q2 => ?_) (fun q2 => ?_)
  · rw [if_pos q2] at h
    cases h
    exact z_mask [true, true, true, false] rfl (K2_0 _ rfl)
  · rw [if_neg q2] at h
    refine z_aload_n dX5_fillHolding_18 rfl ?_
    refine z_gR (zF.x zfX5_15) h0.1 dX5_fillHolding_19 ?_
    refine z_gA zfX5_148 h0.2.2.1.1 dX5_fillHolding_22 ?_
    refine z_bipush dX5_fillHolding_25 cB_19 ?_
    refine z_iload_n dX5_fillHolding_27 rfl ?_
    refine z_i2l dX5_fillHolding_28 rfl ?_
    obtain ⟨q3, h⟩ := zgd_elim h
    refine z_last h0.2.2.1.2.1 (zin_ok q3) dX5_fillHolding_29 ?_
    obtain ⟨S4, eS4, h⟩ := zlet_elim h
    refine z_tS eS4 ?_
    refine z_aload_n dX5_fillHolding_30 rfl ?_
    refine z_gR (zF.x zfX5_15) h0.1 dX5_fillHolding_31 ?_
    refine z_gA zfX5_148 h0.2.2.1.1 dX5_fillHolding_34 ?_
    refine z_bipush dX5_fillHolding_37 cB_20 ?_
    refine z_iload_n dX5_fillHolding_39 rfl ?_
    refine z_i2l dX5_fillHolding_40 rfl ?_
    obtain ⟨q5, h⟩ := zgd_elim h
    refine z_last h0.2.2.1.2.1 (zin_ok q5) dX5_fillHolding_41 ?_
    obtain ⟨S6, eS6, h⟩ := zlet_elim h
    refine z_tS eS6 ?_
    refine z_aload_n dX5_fillHolding_42 rfl ?_
    refine z_gR (zF.x zfX5_15) h0.1 dX5_fillHolding_43 ?_
    refine z_gA zfX5_148 h0.2.2.1.1 dX5_fillHolding_46 ?_
    refine z_bipush dX5_fillHolding_49 cB_21 ?_
    refine z_iload_n dX5_fillHolding_51 rfl ?_
    refine z_i2l dX5_fillHolding_52 rfl ?_
    obtain ⟨q7, h⟩ := zgd_elim h
    refine z_last h0.2.2.1.2.1 (zin_ok q7) dX5_fillHolding_53 ?_
    obtain ⟨S8, eS8, h⟩ := zlet_elim h
    refine z_tS eS8 ?_
    refine z_aload_n dX5_fillHolding_54 rfl ?_
    refine z_gA (zF.x zfX5_38) h0.1 dX5_fillHolding_55 ?_
    refine z_iload_n dX5_fillHolding_58 rfl ?_
    refine z_bipush dX5_fillHolding_59 cB_9 ?_
    refine z_imul dX5_fillHolding_61 rfl ?_
    refine z_iload_n dX5_fillHolding_62 rfl ?_
    refine z_iadd dX5_fillHolding_63 rfl ?_
    refine z_aload_n dX5_fillHolding_64 rfl ?_
    refine z_gR (zF.x zfX5_9) h0.1 dX5_fillHolding_65 ?_
    refine z_gR zfX5_136 h0.2.1.1 dX5_fillHolding_68 ?_
    refine z_aload_n dX5_fillHolding_71 rfl ?_
    refine z_gR (zF.x zfX5_9) h0.1 dX5_fillHolding_72 ?_
    refine z_gR zfX5_52 h0.2.1.1 dX5_fillHolding_75 ?_
    refine z_aload_n dX5_fillHolding_78 rfl ?_
    refine z_gR (zF.x zfX5_15) h0.1 dX5_fillHolding_79 ?_
    obtain ⟨r9, S11, hc10, h⟩ := zb_elim h
    refine z_callV (As := [.ref (zr T (zr T k0 0) 14), .ref (zr T k0 1)]) zcX1 zkX5_154 ziX1_holding zqX1_holding h0.2.1.2.2.2.2.2.2.2.1.1 (tX1_holding T (zr T (zr T k0 0) 12) (zr T (zr T k0 0) 14) (zr T k0 1) S8 h0.2.1.2.2.2.2.2.2.2.1 h0.2.1.2.2.2.2.2.2.2.2.2 h0.2.2.1 (r9, S11) hc10) rfl rfl (Nat.le_of_ble_eq_true rfl) (by decide) ⟨Nat.le_refl _, Nat.le_refl _⟩ ⟨Nat.le_refl _, Nat.le_refl _⟩ dX5_fillHolding_82 ?_
    obtain ⟨q12, h⟩ := zgd_elim h
    refine z_iast h0.2.2.2.2.2.2.2.2.2.1 (zin_ok q12) dX5_fillHolding_85 ?_
    obtain ⟨S13, eS13, h⟩ := zlet_elim h
    refine z_tS eS13 ?_
    refine z_aload_n dX5_fillHolding_86 rfl ?_
    refine z_gA (zF.x zfX5_41) h0.1 dX5_fillHolding_87 ?_
    refine z_iload_n dX5_fillHolding_90 rfl ?_
    refine z_bipush dX5_fillHolding_91 cB_9 ?_
    refine z_imul dX5_fillHolding_93 rfl ?_
    refine z_iload_n dX5_fillHolding_94 rfl ?_
    refine z_iadd dX5_fillHolding_95 rfl ?_
    refine z_aload_n dX5_fillHolding_96 rfl ?_
    refine z_gR (zF.x zfX5_9) h0.1 dX5_fillHolding_97 ?_
    refine z_gR zfX5_145 h0.2.1.1 dX5_fillHolding_100 ?_
    refine z_aload_n dX5_fillHolding_103 rfl ?_
    refine z_gR (zF.x zfX5_9) h0.1 dX5_fillHolding_104 ?_
    refine z_gR zfX5_52 h0.2.1.1 dX5_fillHolding_107 ?_
    refine z_aload_n dX5_fillHolding_110 rfl ?_
    refine z_gR (zF.x zfX5_15) h0.1 dX5_fillHolding_111 ?_
    obtain ⟨r14, S16, hc15, h⟩ := zb_elim h
    refine z_callV (As := [.ref (zr T (zr T k0 0) 14), .ref (zr T k0 1)]) zcX1 zkX5_154 ziX1_holding zqX1_holding h0.2.1.2.2.2.2.2.2.2.2.1.1 (tX1_holding T (zr T (zr T k0 0) 13) (zr T (zr T k0 0) 14) (zr T k0 1) S13 h0.2.1.2.2.2.2.2.2.2.2.1 h0.2.1.2.2.2.2.2.2.2.2.2 h0.2.2.1 (r14, S16) hc15) rfl rfl (Nat.le_of_ble_eq_true rfl) (by decide) ⟨Nat.le_refl _, Nat.le_refl _⟩ ⟨Nat.le_refl _, Nat.le_refl _⟩ dX5_fillHolding_114 ?_
    obtain ⟨q17, h⟩ := zgd_elim h
    refine z_iast h0.2.2.2.2.2.2.2.2.2.2 (zin_ok q17) dX5_fillHolding_117 ?_
    obtain ⟨S18, eS18, h⟩ := zlet_elim h
    refine z_tS eS18 ?_
    obtain ⟨u19, eu19, h⟩ := zlet_elim h
    refine z_iinc (r := u19) dX5_fillHolding_118 rfl (by rw [eu19, cI_1]) rfl (by decide) rfl ?_
    refine z_goto (tgt := 10) dX5_fillHolding_121 (by decide) ?_
    cases h
    exact z_mask [true, true, true, true] rfl (K1 _ rfl)
set_option maxHeartbeats 4000000 in
set_option maxRecDepth 100000 in
theorem tX5_fillHolding_l10 (T : zT) (k0 : Nat) (x1 : Int32) (x2 : Int32) (h0 : iX5 T k0) {g : zG} {v : Option Value} {S' : zS} : ∀ (n : Nat) (a : (Int32 × zS)) (e : zS), lpn (fun a => fX5_fillHolding_l10 T k0 x1 x2 a.1 a.2) n a = some e → (∀ e1 : zS, e = e1 → zg g 3 mX5_fillHolding T 124 [some (.ref k0), some (.int x1), some (.int x2), none] [] T e1 v T S') → zg g 3 mX5_fillHolding T 10 [some (.ref k0), some (.int x1), some (.int x2), some (.int a.1)] [] T a.2 v T S' := by
  intro n
  induction n with
  | zero =>
    intro a e h
    cases h
  | succ n ih =>
    intro a e h k0_
    rcases lpn_succ h with ⟨a1, ha_, hb_⟩ | ha_
    · exact tX5_fillHolding_l10b T k0 x1 x2 a.1 a.2 h0 _ ha_ (fun a2 q => by cases q; exact ih a1 e hb_ k0_) (fun e1 q => by cases q)
    · exact tX5_fillHolding_l10b T k0 x1 x2 a.1 a.2 h0 _ ha_ (fun a2 q => by cases q) (fun e1 q => by cases q; exact k0_ _ rfl)
set_option maxHeartbeats 4000000 in
set_option maxRecDepth 100000 in
theorem tX5_fillHolding_l2b (T : zT) (k0 : Nat) (x1 : Int32) (x2 : Int32) (S : zS) (h0 : iX5 T k0) {g : zG} {v : Option Value} {S' : zS} (r : (Int32 × zS) ⊕ zS) (h : fX5_fillHolding_l2 T k0 x1 x2 S = some r) (K1 : ∀ a : (Int32 × zS), r = .inl a → zg g 3 mX5_fillHolding T 2 [some (.ref k0), some (.int x1), some (.int a.1), none] [] T a.2 v T S') (K2_0 : ∀ e : zS, r = .inr e → zg g 3 mX5_fillHolding T 130 [none, none, none, none] [] T e v T S') : zg g 3 mX5_fillHolding T 2 [some (.ref k0), some (.int x1), some (.int x2), none] [] T S v T S' := by
  unfold fX5_fillHolding_l2 at h
  refine z_iload_n dX5_fillHolding_2 rfl ?_
  refine z_bipush dX5_fillHolding_3 cB_8 ?_
  refine z_icmp_gt (tgt := 130) dX5_fillHolding_5 (by decide) (fun q1 => ?_) (fun q1 => ?_)
  · rw [if_pos q1] at h
    cases h
    exact z_mask [false, false, false, false] rfl (K2_0 _ rfl)
  · rw [if_neg q1] at h
    refine z_iconst dX5_fillHolding_8 cI_0 ?_
    refine z_istore_n dX5_fillHolding_9 rfl (by decide) rfl ?_
    obtain ⟨e20, hl22, h⟩ := zb1_elim h
    obtain ⟨nf23, hl22⟩ := lp_some hl22
    refine z_mask [true, true, true, true] rfl (tX5_fillHolding_l10 T k0 x1 x2 h0 nf23 (0, S) e20 hl22 (fun e_ q => ?_))
    · cases q
      obtain ⟨u21, eu21, h⟩ := zlet_elim h
      refine z_iinc (r := u21) dX5_fillHolding_124 rfl (by rw [eu21, cI_1]) rfl (by decide) rfl ?_
      refine z_goto (tgt := 2) dX5_fillHolding_127 (by decide) ?_
      cases h
      exact z_mask [true, true, true, false] rfl (K1 _ rfl)
set_option maxHeartbeats 4000000 in
set_option maxRecDepth 100000 in
theorem tX5_fillHolding_l2 (T : zT) (k0 : Nat) (x1 : Int32) (h0 : iX5 T k0) {g : zG} {v : Option Value} {S' : zS} : ∀ (n : Nat) (a : (Int32 × zS)) (e : zS), lpn (fun a => fX5_fillHolding_l2 T k0 x1 a.1 a.2) n a = some e → (∀ e1 : zS, e = e1 → zg g 3 mX5_fillHolding T 130 [none, none, none, none] [] T e1 v T S') → zg g 3 mX5_fillHolding T 2 [some (.ref k0), some (.int x1), some (.int a.1), none] [] T a.2 v T S' := by
  intro n
  induction n with
  | zero =>
    intro a e h
    cases h
  | succ n ih =>
    intro a e h k0_
    rcases lpn_succ h with ⟨a1, ha_, hb_⟩ | ha_
    · exact tX5_fillHolding_l2b T k0 x1 a.1 a.2 h0 _ ha_ (fun a2 q => by cases q; exact ih a1 e hb_ k0_) (fun e1 q => by cases q)
    · exact tX5_fillHolding_l2b T k0 x1 a.1 a.2 h0 _ ha_ (fun a2 q => by cases q) (fun e1 q => by cases q; exact k0_ _ rfl)
set_option maxHeartbeats 4000000 in
set_option maxRecDepth 100000 in
theorem tX5_fillHolding (T : zT) (k0 : Nat) (x1 : Int32) (S : zS) (h0 : iX5 T k0) (r : Unit × zS) (h : fX5_fillHolding T k0 x1 S = some r) : zGM 3 mX5_fillHolding [.ref k0, .int x1] T S none T r.2 := by
  refine zGM_of zpnX5 rfl (Nat.le_of_ble_eq_true rfl) (fun g => ?_)
  show zg g 3 mX5_fillHolding T 0 [some (.ref k0), some (.int x1), none, none] [] T S none T r.2
  unfold fX5_fillHolding at h
  refine z_iconst dX5_fillHolding_0 cI_0 ?_
  refine z_istore_n dX5_fillHolding_1 rfl (by decide) rfl ?_
  obtain ⟨e24, hl25, h⟩ := zb1_elim h
  obtain ⟨nf26, hl25⟩ := lp_some hl25
  refine z_mask [true, true, true, false] rfl (tX5_fillHolding_l2 T k0 x1 h0 nf26 (0, S) e24 hl25 (fun e_ q => ?_))
  · cases q
    cases h
    exact z_vret rfl dX5_fillHolding_130
/-! X5_tracePlan -/
noncomputable def fX5_tracePlan_l2 (T : zT) (k0 : Nat) (x1 : Int32) (S : zS) : Option ((Int32 × zS) ⊕ zS) :=
  if 8 ≤ x1 then some (.inr S) else zgd (zin x1 8) (zlet (zI S (zr T k0 7) (x1 : Int32).toNatClampNeg (-1)) fun S3 => zlet (x1 + 1) fun u4 => some (.inl (u4, S3)))
noncomputable def fX5_tracePlan_b103 (T : zT) (k0 : Nat) (x2 : Int32) (x3 : Int32) (x4 : Int32) (x5 : Int32) (S : zS) : Option ((Int32 × zS) ⊕ zS) :=
  zlet (x5 + 1) fun u17 => some (.inl (u17, S))
noncomputable def fX5_tracePlan_l78 (T : zT) (k0 : Nat) (x2 : Int32) (x3 : Int32) (x4 : Int32) (x5 : Int32) (S : zS) : Option ((Int32 × zS) ⊕ zS) :=
  if 8 ≤ x5 then some (.inr S) else if ((x4 >>> (x5 &&& 31)) &&& 1) = 0 then fX5_tracePlan_b103 T k0 x2 x3 x4 x5 S else zgd (zin x5 8) (zlet (zI S (zr T k0 7) (x5 : Int32).toNatClampNeg x2) fun S19 => fX5_tracePlan_b103 T k0 x2 x3 x4 x5 S19)
noncomputable def fX5_tracePlan_b67 (T : zT) (k0 : Nat) (x1 : Int32) (x2 : Int32) (s0 : Int32) (S : zS) : Option ((Int32 × Int32 × zS) ⊕ zS) :=
  zlet (x1 &&& (s0 ^^^ (-1))) fun u14 => zb1 (lp (fun a => fX5_tracePlan_l78 T k0 x2 s0 u14 a.1 a.2) (0, S)) fun e20 => zlet (x2 + (-1)) fun u21 => some (.inl (s0, u21, e20))
noncomputable def fX5_tracePlan_l49 (T : zT) (k0 : Nat) (x1 : Int32) (x2 : Int32) (S : zS) : Option ((Int32 × Int32 × zS) ⊕ zS) :=
  if x2 < 0 then some (.inr S) else if x2 = 0 then fX5_tracePlan_b67 T k0 x1 x2 0 S else zb1 (fX5_setAhead T k0 x2 x1 S) fun r12 => fX5_tracePlan_b67 T k0 x1 x2 r12 S
noncomputable def fX5_tracePlan (T : zT) (k0 : Nat) (S : zS) : Option (Unit × zS) :=
  zb1 (lp (fun a => fX5_tracePlan_l2 T k0 a.1 a.2) (0, S)) fun e5 => if 0 ≤ (e5.1 k0 3) then zlet (e5.1 k0 4) fun u7 => zlet (if 60 < (e5.1 (zr T k0 0) 1) then 60 else (e5.1 (zr T k0 0) 1)) fun u8 => zlet (u8 - 1) fun u9 => zb1 (lp (fun a => fX5_tracePlan_l49 T k0 a.1 a.2.1 a.2.2) (u7, u9, e5)) fun e24 => some ((), e24) else some ((), e5)
set_option maxHeartbeats 4000000 in
set_option maxRecDepth 100000 in
theorem tX5_tracePlan_l2b (T : zT) (k0 : Nat) (x1 : Int32) (S : zS) (h0 : iX5 T k0) {g : zG} {v : Option Value} {S' : zS} (r : (Int32 × zS) ⊕ zS) (h : fX5_tracePlan_l2 T k0 x1 S = some r) (K1 : ∀ a : (Int32 × zS), r = .inl a → zg g 3 mX5_tracePlan T 2 [some (.ref k0), some (.int a.1), none, none, none, none] [] T a.2 v T S') (K2_0 : ∀ e : zS, r = .inr e → zg g 3 mX5_tracePlan T 21 [some (.ref k0), none, none, none, none, none] [] T e v T S') : zg g 3 mX5_tracePlan T 2 [some (.ref k0), some (.int x1), none, none, none, none] [] T S v T S' := by
  unfold fX5_tracePlan_l2 at h
  refine z_iload_n dX5_tracePlan_2 rfl ?_
  refine z_bipush dX5_tracePlan_3 cB_8 ?_
  refine z_icmp_ge (tgt := 21) dX5_tracePlan_5 (by decide) (fun q1 => ?_) (fun q1 => ?_)
  · rw [if_pos q1] at h
    cases h
    exact z_mask [true, false, false, false, false, false] rfl (K2_0 _ rfl)
  · rw [if_neg q1] at h
    refine z_aload_n dX5_tracePlan_8 rfl ?_
    refine z_gA (zF.x zfX5_19) h0.1 dX5_tracePlan_9 ?_
    refine z_iload_n dX5_tracePlan_12 rfl ?_
    refine z_iconst dX5_tracePlan_13 cI_m1 ?_
    obtain ⟨q2, h⟩ := zgd_elim h
    refine z_iast h0.2.2.2.1 (zin_ok q2) dX5_tracePlan_14 ?_
    obtain ⟨S3, eS3, h⟩ := zlet_elim h
    refine z_tS eS3 ?_
    obtain ⟨u4, eu4, h⟩ := zlet_elim h
    refine z_iinc (r := u4) dX5_tracePlan_15 rfl (by rw [eu4, cI_1]) rfl (by decide) rfl ?_
    refine z_goto (tgt := 2) dX5_tracePlan_18 (by decide) ?_
    cases h
    exact z_mask [true, true, false, false, false, false] rfl (K1 _ rfl)
set_option maxHeartbeats 4000000 in
set_option maxRecDepth 100000 in
theorem tX5_tracePlan_l2 (T : zT) (k0 : Nat) (h0 : iX5 T k0) {g : zG} {v : Option Value} {S' : zS} : ∀ (n : Nat) (a : (Int32 × zS)) (e : zS), lpn (fun a => fX5_tracePlan_l2 T k0 a.1 a.2) n a = some e → (∀ e1 : zS, e = e1 → zg g 3 mX5_tracePlan T 21 [some (.ref k0), none, none, none, none, none] [] T e1 v T S') → zg g 3 mX5_tracePlan T 2 [some (.ref k0), some (.int a.1), none, none, none, none] [] T a.2 v T S' := by
  intro n
  induction n with
  | zero =>
    intro a e h
    cases h
  | succ n ih =>
    intro a e h k0_
    rcases lpn_succ h with ⟨a1, ha_, hb_⟩ | ha_
    · exact tX5_tracePlan_l2b T k0 a.1 a.2 h0 _ ha_ (fun a2 q => by cases q; exact ih a1 e hb_ k0_) (fun e1 q => by cases q)
    · exact tX5_tracePlan_l2b T k0 a.1 a.2 h0 _ ha_ (fun a2 q => by cases q) (fun e1 q => by cases q; exact k0_ _ rfl)
set_option maxHeartbeats 4000000 in
set_option maxRecDepth 100000 in
theorem tX5_tracePlan_b103 (T : zT) (k0 : Nat) (x2 : Int32) (x3 : Int32) (x4 : Int32) (x5 : Int32) (S : zS) (h0 : iX5 T k0) {g : zG} {v : Option Value} {S' : zS} (r : ((Int32 × zS) ⊕ zS)) (h : fX5_tracePlan_b103 T k0 x2 x3 x4 x5 S = some r) (K1 : ∀ a : (Int32 × zS), r = .inl a → zg g 3 mX5_tracePlan T 78 [some (.ref k0), none, some (.int x2), some (.int x3), some (.int x4), some (.int a.1)] [] T a.2 v T S') (K2_0 : ∀ e : zS, r = .inr e → zg g 3 mX5_tracePlan T 109 [some (.ref k0), none, some (.int x2), some (.int x3), none, none] [] T e v T S') : zg g 3 mX5_tracePlan T 103 [some (.ref k0), none, some (.int x2), some (.int x3), some (.int x4), some (.int x5)] [] T S v T S' := by
  unfold fX5_tracePlan_b103 at h
  obtain ⟨u17, eu17, h⟩ := zlet_elim h
  refine z_iinc (r := u17) dX5_tracePlan_103 rfl (by rw [eu17, cI_1]) rfl (by decide) rfl ?_
  refine z_goto (tgt := 78) dX5_tracePlan_106 (by decide) ?_
  cases h
  exact z_mask [true, false, true, true, true, true] rfl (K1 _ rfl)
set_option maxHeartbeats 4000000 in
set_option maxRecDepth 100000 in
theorem tX5_tracePlan_l78b (T : zT) (k0 : Nat) (x2 : Int32) (x3 : Int32) (x4 : Int32) (x5 : Int32) (S : zS) (h0 : iX5 T k0) {g : zG} {v : Option Value} {S' : zS} (r : (Int32 × zS) ⊕ zS) (h : fX5_tracePlan_l78 T k0 x2 x3 x4 x5 S = some r) (K1 : ∀ a : (Int32 × zS), r = .inl a → zg g 3 mX5_tracePlan T 78 [some (.ref k0), none, some (.int x2), some (.int x3), some (.int x4), some (.int a.1)] [] T a.2 v T S') (K2_0 : ∀ e : zS, r = .inr e → zg g 3 mX5_tracePlan T 109 [some (.ref k0), none, some (.int x2), some (.int x3), none, none] [] T e v T S') : zg g 3 mX5_tracePlan T 78 [some (.ref k0), none, some (.int x2), some (.int x3), some (.int x4), some (.int x5)] [] T S v T S' := by
  unfold fX5_tracePlan_l78 at h
  refine z_iload dX5_tracePlan_78 rfl ?_
  refine z_bipush dX5_tracePlan_80 cB_8 ?_
  refine z_icmp_ge (tgt := 109) dX5_tracePlan_82 (by decide) (fun q15 => ?_) (fun q15 => ?_)
  · rw [if_pos q15] at h
    cases h
    exact z_mask [true, false, true, true, false, false] rfl (K2_0 _ rfl)
  · rw [if_neg q15] at h
    refine z_iload dX5_tracePlan_85 rfl ?_
    refine z_iload dX5_tracePlan_87 rfl ?_
    refine z_ishr dX5_tracePlan_89 rfl ?_
    refine z_iconst dX5_tracePlan_90 cI_1 ?_
    refine z_iand dX5_tracePlan_91 rfl ?_
    refine z_if_eq (tgt := 103) dX5_tracePlan_92 (by decide) (fun q16 => ?_) (fun q16 => ?_)
    · rw [if_pos q16] at h
      exact z_mask [true, false, true, true, true, true] rfl (tX5_tracePlan_b103 T k0 x2 x3 x4 x5 S h0 r h K1 K2_0)
    · rw [if_neg q16] at h
      refine z_aload_n dX5_tracePlan_95 rfl ?_
      refine z_gA (zF.x zfX5_19) h0.1 dX5_tracePlan_96 ?_
      refine z_iload dX5_tracePlan_99 rfl ?_
      refine z_iload_n dX5_tracePlan_101 rfl ?_
      obtain ⟨q18, h⟩ := zgd_elim h
      refine z_iast h0.2.2.2.1 (zin_ok q18) dX5_tracePlan_102 ?_
      obtain ⟨S19, eS19, h⟩ := zlet_elim h
      refine z_tS eS19 ?_
      exact z_mask [true, false, true, true, true, true] rfl (tX5_tracePlan_b103 T k0 x2 x3 x4 x5 S19 h0 r h K1 K2_0)
set_option maxHeartbeats 4000000 in
set_option maxRecDepth 100000 in
theorem tX5_tracePlan_l78 (T : zT) (k0 : Nat) (x2 : Int32) (x3 : Int32) (x4 : Int32) (h0 : iX5 T k0) {g : zG} {v : Option Value} {S' : zS} : ∀ (n : Nat) (a : (Int32 × zS)) (e : zS), lpn (fun a => fX5_tracePlan_l78 T k0 x2 x3 x4 a.1 a.2) n a = some e → (∀ e1 : zS, e = e1 → zg g 3 mX5_tracePlan T 109 [some (.ref k0), none, some (.int x2), some (.int x3), none, none] [] T e1 v T S') → zg g 3 mX5_tracePlan T 78 [some (.ref k0), none, some (.int x2), some (.int x3), some (.int x4), some (.int a.1)] [] T a.2 v T S' := by
  intro n
  induction n with
  | zero =>
    intro a e h
    cases h
  | succ n ih =>
    intro a e h k0_
    rcases lpn_succ h with ⟨a1, ha_, hb_⟩ | ha_
    · exact tX5_tracePlan_l78b T k0 x2 x3 x4 a.1 a.2 h0 _ ha_ (fun a2 q => by cases q; exact ih a1 e hb_ k0_) (fun e1 q => by cases q)
    · exact tX5_tracePlan_l78b T k0 x2 x3 x4 a.1 a.2 h0 _ ha_ (fun a2 q => by cases q) (fun e1 q => by cases q; exact k0_ _ rfl)
set_option maxHeartbeats 4000000 in
set_option maxRecDepth 100000 in
theorem tX5_tracePlan_b67 (T : zT) (k0 : Nat) (x1 : Int32) (x2 : Int32) (s0 : Int32) (S : zS) (h0 : iX5 T k0) {g : zG} {v : Option Value} {S' : zS} (r : ((Int32 × Int32 × zS) ⊕ zS)) (h : fX5_tracePlan_b67 T k0 x1 x2 s0 S = some r) (K1 : ∀ a : (Int32 × Int32 × zS), r = .inl a → zg g 3 mX5_tracePlan T 49 [some (.ref k0), some (.int a.1), some (.int a.2.1), none, none, none] [] T a.2.2 v T S') (K2_0 : ∀ e : zS, r = .inr e → zg g 3 mX5_tracePlan T 117 [none, none, none, none, none, none] [] T e v T S') : zg g 3 mX5_tracePlan T 67 [some (.ref k0), some (.int x1), some (.int x2), none, none, none] [.int s0] T S v T S' := by
  unfold fX5_tracePlan_b67 at h
  refine z_istore_n dX5_tracePlan_67 rfl (by decide) rfl ?_
  refine z_iload_n dX5_tracePlan_68 rfl ?_
  refine z_iload_n dX5_tracePlan_69 rfl ?_
  refine z_iconst dX5_tracePlan_70 cI_m1 ?_
  refine z_ixor dX5_tracePlan_71 rfl ?_
  refine z_iand dX5_tracePlan_72 rfl ?_
  obtain ⟨u14, eu14, h⟩ := zlet_elim h
  refine z_ti eu14 ?_
  refine z_istore dX5_tracePlan_73 rfl (by decide) rfl ?_
  refine z_iconst dX5_tracePlan_75 cI_0 ?_
  refine z_istore dX5_tracePlan_76 rfl (by decide) rfl ?_
  obtain ⟨e20, hl22, h⟩ := zb1_elim h
  obtain ⟨nf23, hl22⟩ := lp_some hl22
  refine z_mask [true, false, true, true, true, true] rfl (tX5_tracePlan_l78 T k0 x2 s0 u14 h0 nf23 (0, S) e20 hl22 (fun e_ q => ?_))
  · cases q
    refine z_iload_n dX5_tracePlan_109 rfl ?_
    refine z_istore_n dX5_tracePlan_110 rfl (by decide) rfl ?_
    obtain ⟨u21, eu21, h⟩ := zlet_elim h
    refine z_iinc (r := u21) dX5_tracePlan_111 rfl (by rw [eu21, cI_m1]) rfl (by decide) rfl ?_
    refine z_goto (tgt := 49) dX5_tracePlan_114 (by decide) ?_
    cases h
    exact z_mask [true, true, true, false, false, false] rfl (K1 _ rfl)
set_option maxHeartbeats 4000000 in
set_option maxRecDepth 100000 in
theorem tX5_tracePlan_l49b (T : zT) (k0 : Nat) (x1 : Int32) (x2 : Int32) (S : zS) (h0 : iX5 T k0) {g : zG} {v : Option Value} {S' : zS} (r : (Int32 × Int32 × zS) ⊕ zS) (h : fX5_tracePlan_l49 T k0 x1 x2 S = some r) (K1 : ∀ a : (Int32 × Int32 × zS), r = .inl a → zg g 3 mX5_tracePlan T 49 [some (.ref k0), some (.int a.1), some (.int a.2.1), none, none, none] [] T a.2.2 v T S') (K2_0 : ∀ e : zS, r = .inr e → zg g 3 mX5_tracePlan T 117 [none, none, none, none, none, none] [] T e v T S') : zg g 3 mX5_tracePlan T 49 [some (.ref k0), some (.int x1), some (.int x2), none, none, none] [] T S v T S' := by
  unfold fX5_tracePlan_l49 at h
  refine z_iload_n dX5_tracePlan_49 rfl ?_
  refine z_if_lt (tgt := 117) dX5_tracePlan_50 (by decide) (fun q10 => ?_) (fun q10 => ?_)
  · rw [if_pos q10] at h
    cases h
    exact z_mask [false, false, false, false, false, false] rfl (K2_0 _ rfl)
  · rw [if_neg q10] at h
    refine z_iload_n dX5_tracePlan_53 rfl ?_
    refine z_if_ne (tgt := 61) dX5_tracePlan_54 (by decide) (fun q11 => ?_) (fun q11 => ?_)
    · rw [if_neg q11] at h
      refine z_aload_n dX5_tracePlan_61 rfl ?_
      refine z_iload_n dX5_tracePlan_62 rfl ?_
      refine z_iload_n dX5_tracePlan_63 rfl ?_
      obtain ⟨r12, hc13, h⟩ := zb1_elim h
      refine z_callV (As := [.int x2, .int x1]) zcX5 zkX5_167 ziX5_setAhead zqX5_setAhead h0.1 (tX5_setAhead T k0 x2 x1 S h0 r12 hc13) rfl rfl (Nat.le_of_ble_eq_true rfl) (by decide) ⟨Nat.le_refl _, Nat.le_refl _⟩ ⟨Nat.le_refl _, Nat.le_refl _⟩ dX5_tracePlan_64 ?_
      exact z_mask [true, true, true, false, false, false] rfl (tX5_tracePlan_b67 T k0 x1 x2 r12 S h0 r h K1 K2_0)
    · rw [if_pos q11] at h
      refine z_iconst dX5_tracePlan_57 cI_0 ?_
      refine z_goto (tgt := 67) dX5_tracePlan_58 (by decide) ?_
      exact z_mask [true, true, true, false, false, false] rfl (tX5_tracePlan_b67 T k0 x1 x2 0 S h0 r h K1 K2_0)
set_option maxHeartbeats 4000000 in
set_option maxRecDepth 100000 in
theorem tX5_tracePlan_l49 (T : zT) (k0 : Nat) (h0 : iX5 T k0) {g : zG} {v : Option Value} {S' : zS} : ∀ (n : Nat) (a : (Int32 × Int32 × zS)) (e : zS), lpn (fun a => fX5_tracePlan_l49 T k0 a.1 a.2.1 a.2.2) n a = some e → (∀ e1 : zS, e = e1 → zg g 3 mX5_tracePlan T 117 [none, none, none, none, none, none] [] T e1 v T S') → zg g 3 mX5_tracePlan T 49 [some (.ref k0), some (.int a.1), some (.int a.2.1), none, none, none] [] T a.2.2 v T S' := by
  intro n
  induction n with
  | zero =>
    intro a e h
    cases h
  | succ n ih =>
    intro a e h k0_
    rcases lpn_succ h with ⟨a1, ha_, hb_⟩ | ha_
    · exact tX5_tracePlan_l49b T k0 a.1 a.2.1 a.2.2 h0 _ ha_ (fun a2 q => by cases q; exact ih a1 e hb_ k0_) (fun e1 q => by cases q)
    · exact tX5_tracePlan_l49b T k0 a.1 a.2.1 a.2.2 h0 _ ha_ (fun a2 q => by cases q) (fun e1 q => by cases q; exact k0_ _ rfl)
set_option maxHeartbeats 4000000 in
set_option maxRecDepth 100000 in
theorem tX5_tracePlan (T : zT) (k0 : Nat) (S : zS) (h0 : iX5 T k0) (r : Unit × zS) (h : fX5_tracePlan T k0 S = some r) : zGM 3 mX5_tracePlan [.ref k0] T S none T r.2 := by
  refine zGM_of zpnX5 rfl (Nat.le_of_ble_eq_true rfl) (fun g => ?_)
  show zg g 3 mX5_tracePlan T 0 [some (.ref k0), none, none, none, none, none] [] T S none T r.2
  unfold fX5_tracePlan at h
  refine z_iconst dX5_tracePlan_0 cI_0 ?_
  refine z_istore_n dX5_tracePlan_1 rfl (by decide) rfl ?_
  obtain ⟨e5, hl27, h⟩ := zb1_elim h
  obtain ⟨nf28, hl27⟩ := lp_some hl27
  refine z_mask [true, true, false, false, false, false] rfl (tX5_tracePlan_l2 T k0 h0 nf28 (0, S) e5 hl27 (fun e_ q => ?_))
  · cases q
    refine z_aload_n dX5_tracePlan_21 rfl ?_
    refine z_gI (zF.x zfX5_98) h0.1 dX5_tracePlan_22 ?_
    refine z_if_ge (tgt := 29) dX5_tracePlan_25 (by decide) (fun q6 => ?_) (fun q6 => ?_)
    · rw [if_pos q6] at h
      refine z_aload_n dX5_tracePlan_29 rfl ?_
      refine z_gI (zF.x zfX5_105) h0.1 dX5_tracePlan_30 ?_
      obtain ⟨u7, eu7, h⟩ := zlet_elim h
      refine z_ti eu7 ?_
      refine z_istore_n dX5_tracePlan_33 rfl (by decide) rfl ?_
      refine z_aload_n dX5_tracePlan_34 rfl ?_
      refine z_gR (zF.x zfX5_9) h0.1 dX5_tracePlan_35 ?_
      refine z_gI (zF.x zfX5_78) h0.2.1.1 dX5_tracePlan_38 ?_
      refine z_bipush dX5_tracePlan_41 cB_60 ?_
      refine z_mmin zxX5_164 zmmin_static zjJ9 zmmin_code rfl (by decide) (Nat.le_of_ble_eq_true rfl) ⟨Nat.le_refl _, Nat.le_refl _⟩ dX5_tracePlan_43 ?_
      obtain ⟨u8, eu8, h⟩ := zlet_elim h
      refine z_ti eu8 ?_
      refine z_iconst dX5_tracePlan_46 cI_1 ?_
      refine z_isub dX5_tracePlan_47 rfl ?_
      obtain ⟨u9, eu9, h⟩ := zlet_elim h
      refine z_ti eu9 ?_
      refine z_istore_n dX5_tracePlan_48 rfl (by decide) rfl ?_
      obtain ⟨e24, hl25, h⟩ := zb1_elim h
      obtain ⟨nf26, hl25⟩ := lp_some hl25
      refine z_mask [true, true, true, false, false, false] rfl (tX5_tracePlan_l49 T k0 h0 nf26 (u7, u9, e5) e24 hl25 (fun e_ q => ?_))
      · cases q
        cases h
        exact z_vret rfl dX5_tracePlan_117
    · rw [if_neg q6] at h
      cases h
      exact z_vret rfl dX5_tracePlan_28
/-! X5_hanging -/
noncomputable def fX5_hanging_l17 (T : zT) (k0 : Nat) (x1 : Int32) (x2 : Int32) (S : zS) : Option ((Int32 × zS) ⊕ zS) :=
  if (S.1 (zr T k0 0) 1) ≤ x2 then some (.inr S) else zb1 (fX5_gainsWithout T k0 x1 x2 S) fun r5 => zb (fX5_pass T k0 (zr T k0 11) 256 x2 (1 <<< (x1 &&& 31)) r5 15360 S) fun _ S9 => zlet (x2 + 1) fun u10 => some (.inl (u10, S9))
noncomputable def fX5_hanging (T : zT) (k0 : Nat) (x1 : Int32) (S : zS) : Option (Int32 × zS) :=
  zb (fX5_start T (zr T k0 11) 256 0 (S.1 (zr T k0 0) 2) S) fun _ S3 => zb1 (lp (fun a => fX5_hanging_l17 T k0 x1 a.1 a.2) (0, S3)) fun e11 => zb1 (fX5_mostIn T (zr T k0 11) 256 e11) fun r12 => zlet (if 0 < r12 then r12 else 0) fun u14 => some (((e11.1 k0 3) - u14), e11)
set_option maxHeartbeats 4000000 in
set_option maxRecDepth 100000 in
theorem tX5_hanging_l17b (T : zT) (k0 : Nat) (x1 : Int32) (x2 : Int32) (S : zS) (h0 : iX5 T k0) {g : zG} {v : Option Value} {S' : zS} (r : (Int32 × zS) ⊕ zS) (h : fX5_hanging_l17 T k0 x1 x2 S = some r) (K1 : ∀ a : (Int32 × zS), r = .inl a → zg g 3 mX5_hanging T 17 [some (.ref k0), some (.int x1), some (.int a.1)] [] T a.2 v T S') (K2_0 : ∀ e : zS, r = .inr e → zg g 3 mX5_hanging T 52 [some (.ref k0), none, none] [] T e v T S') : zg g 3 mX5_hanging T 17 [some (.ref k0), some (.int x1), some (.int x2)] [] T S v T S' := by
  unfold fX5_hanging_l17 at h
  refine z_iload_n dX5_hanging_17 rfl ?_
  refine z_aload_n dX5_hanging_18 rfl ?_
  refine z_gR (zF.x zfX5_9) h0.1 dX5_hanging_19 ?_
  refine z_gI (zF.x zfX5_78) h0.2.1.1 dX5_hanging_22 ?_
  refine z_icmp_ge (tgt := 52) dX5_hanging_25 (by decide) (fun q4 => ?_) (fun q4 => ?_)
  · rw [if_pos q4] at h
    cases h
    exact z_mask [true, false, false] rfl (K2_0 _ rfl)
  · rw [if_neg q4] at h
    refine z_aload_n dX5_hanging_28 rfl ?_
    refine z_aload_n dX5_hanging_29 rfl ?_
    refine z_gA (zF.x zfX5_32) h0.1 dX5_hanging_30 ?_
    refine z_iload_n dX5_hanging_33 rfl ?_
    refine z_iconst dX5_hanging_34 cI_1 ?_
    refine z_iload_n dX5_hanging_35 rfl ?_
    refine z_ishl dX5_hanging_36 rfl ?_
    refine z_aload_n dX5_hanging_37 rfl ?_
    refine z_iload_n dX5_hanging_38 rfl ?_
    refine z_iload_n dX5_hanging_39 rfl ?_
    obtain ⟨r5, hc6, h⟩ := zb1_elim h
    refine z_callV (As := [.int x1, .int x2]) zcX5 zkX5_186 ziX5_gainsWithout zqX5_gainsWithout h0.1 (tX5_gainsWithout T k0 x1 x2 S h0 r5 hc6) rfl rfl (Nat.le_of_ble_eq_true rfl) (by decide) ⟨Nat.le_refl _, Nat.le_refl _⟩ ⟨Nat.le_refl _, Nat.le_refl _⟩ dX5_hanging_40 ?_
    obtain ⟨r7, S9, hc8, h⟩ := zb_elim h
    refine z_callV (As := [.ref (zr T k0 11), .int x2, .int (1 <<< (x1 &&& 31)), .ref r5]) zcX5 zkX5_81 ziX5_pass zqX5_pass h0.1 (tX5_pass T k0 (zr T k0 11) 256 x2 (1 <<< (x1 &&& 31)) r5 15360 S h0 h0.2.2.2.2.2.2.2.1 (uX5_gainsWithout T k0 x1 x2 S h0 r5 hc6) (r7, S9) hc8) rfl rfl (Nat.le_of_ble_eq_true rfl) (by decide) ⟨Nat.le_refl _, Nat.le_refl _⟩ ⟨Nat.le_refl _, Nat.le_refl _⟩ dX5_hanging_43 ?_
    obtain ⟨u10, eu10, h⟩ := zlet_elim h
    refine z_iinc (r := u10) dX5_hanging_46 rfl (by rw [eu10, cI_1]) rfl (by decide) rfl ?_
    refine z_goto (tgt := 17) dX5_hanging_49 (by decide) ?_
    cases h
    exact z_mask [true, true, true] rfl (K1 _ rfl)
set_option maxHeartbeats 4000000 in
set_option maxRecDepth 100000 in
theorem tX5_hanging_l17 (T : zT) (k0 : Nat) (x1 : Int32) (h0 : iX5 T k0) {g : zG} {v : Option Value} {S' : zS} : ∀ (n : Nat) (a : (Int32 × zS)) (e : zS), lpn (fun a => fX5_hanging_l17 T k0 x1 a.1 a.2) n a = some e → (∀ e1 : zS, e = e1 → zg g 3 mX5_hanging T 52 [some (.ref k0), none, none] [] T e1 v T S') → zg g 3 mX5_hanging T 17 [some (.ref k0), some (.int x1), some (.int a.1)] [] T a.2 v T S' := by
  intro n
  induction n with
  | zero =>
    intro a e h
    cases h
  | succ n ih =>
    intro a e h k0_
    rcases lpn_succ h with ⟨a1, ha_, hb_⟩ | ha_
    · exact tX5_hanging_l17b T k0 x1 a.1 a.2 h0 _ ha_ (fun a2 q => by cases q; exact ih a1 e hb_ k0_) (fun e1 q => by cases q)
    · exact tX5_hanging_l17b T k0 x1 a.1 a.2 h0 _ ha_ (fun a2 q => by cases q) (fun e1 q => by cases q; exact k0_ _ rfl)
set_option maxHeartbeats 4000000 in
set_option maxRecDepth 100000 in
theorem tX5_hanging (T : zT) (k0 : Nat) (x1 : Int32) (S : zS) (h0 : iX5 T k0) (r : Int32 × zS) (h : fX5_hanging T k0 x1 S = some r) : zGM 3 mX5_hanging [.ref k0, .int x1] T S (some (.int r.1)) T r.2 := by
  refine zGM_of zpnX5 rfl (Nat.le_of_ble_eq_true rfl) (fun g => ?_)
  show zg g 3 mX5_hanging T 0 [some (.ref k0), some (.int x1), none] [] T S (some (.int r.1)) T r.2
  unfold fX5_hanging at h
  refine z_aload_n dX5_hanging_0 rfl ?_
  refine z_gA (zF.x zfX5_32) h0.1 dX5_hanging_1 ?_
  refine z_iconst dX5_hanging_4 cI_0 ?_
  refine z_aload_n dX5_hanging_5 rfl ?_
  refine z_gR (zF.x zfX5_9) h0.1 dX5_hanging_6 ?_
  refine z_gI (zF.x zfX5_64) h0.2.1.1 dX5_hanging_9 ?_
  obtain ⟨r1, S3, hc2, h⟩ := zb_elim h
  refine z_callS (As := [.ref (zr T k0 11), .int 0, .int (S.1 (zr T k0 0) 2)]) zkX5_68 zsX5_start (tX5_start T (zr T k0 11) 256 0 (S.1 (zr T k0 0) 2) S h0.2.2.2.2.2.2.2.1 (r1, S3) hc2) rfl rfl (Nat.le_of_ble_eq_true rfl) (by decide) ⟨Nat.le_refl _, Nat.le_refl _⟩ ⟨Nat.le_refl _, Nat.le_refl _⟩ dX5_hanging_12 ?_
  refine z_iconst dX5_hanging_15 cI_0 ?_
  refine z_istore_n dX5_hanging_16 rfl (by decide) rfl ?_
  obtain ⟨e11, hl15, h⟩ := zb1_elim h
  obtain ⟨nf16, hl15⟩ := lp_some hl15
  refine z_mask [true, true, true] rfl (tX5_hanging_l17 T k0 x1 h0 nf16 (0, S3) e11 hl15 (fun e_ q => ?_))
  · cases q
    refine z_aload_n dX5_hanging_52 rfl ?_
    refine z_gI (zF.x zfX5_98) h0.1 dX5_hanging_53 ?_
    refine z_iconst dX5_hanging_56 cI_0 ?_
    refine z_aload_n dX5_hanging_57 rfl ?_
    refine z_gA (zF.x zfX5_32) h0.1 dX5_hanging_58 ?_
    obtain ⟨r12, hc13, h⟩ := zb1_elim h
    refine z_callS (As := [.ref (zr T k0 11)]) zkX5_94 zsX5_mostIn (tX5_mostIn T (zr T k0 11) 256 e11 h0.2.2.2.2.2.2.2.1 r12 hc13) rfl rfl (Nat.le_of_ble_eq_true rfl) (by decide) ⟨Nat.le_refl _, Nat.le_refl _⟩ ⟨Nat.le_refl _, Nat.le_refl _⟩ dX5_hanging_61 ?_
    refine z_mmax zxX5_127 zmmax_static zjJ9 zmmax_code rfl (by decide) (Nat.le_of_ble_eq_true rfl) ⟨Nat.le_refl _, Nat.le_refl _⟩ dX5_hanging_64 ?_
    obtain ⟨u14, eu14, h⟩ := zlet_elim h
    refine z_ti eu14 ?_
    refine z_isub dX5_hanging_67 rfl ?_
    cases h
    exact z_iret rfl dX5_hanging_68
/-! X5_bestNeverPut -/
noncomputable def fX5_bestNeverPut_l37 (T : zT) (k0 : Nat) (x3 : Int32) (S : zS) : Option ((Int32 × zS) ⊕ zS) :=
  if (S.1 (zr T k0 0) 1) ≤ x3 then some (.inr S) else zb (fX5_pass T k0 (zr T k0 11) 256 x3 0 (zr T k0 9) 15360 S) fun _ S10 => zlet (x3 + 1) fun u11 => some (.inl (u11, S10))
noncomputable def fX5_bestNeverPut (T : zT) (k0 : Nat) (x1 : Int32) (S : zS) : Option (Int32 × zS) :=
  zgd (zin x1 8) (zlet ((S.1 (zr T k0 0) 2) - (S.1 (zr T (zr T k0 0) 6) (x1 : Int32).toNatClampNeg)) fun u2 => if 0 ≤ u2 then zb (fX5_start T (zr T k0 11) 256 (1 <<< (x1 &&& 31)) u2 S) fun _ S6 => zb1 (lp (fun a => fX5_bestNeverPut_l37 T k0 a.1 a.2) (0, S6)) fun e12 => zb1 (fX5_mostIn T (zr T k0 11) 256 e12) fun r13 => some (r13, e12) else some ((-1), S))
set_option maxHeartbeats 4000000 in
set_option maxRecDepth 100000 in
theorem tX5_bestNeverPut_l37b (T : zT) (k0 : Nat) (x3 : Int32) (S : zS) (h0 : iX5 T k0) {g : zG} {v : Option Value} {S' : zS} (r : (Int32 × zS) ⊕ zS) (h : fX5_bestNeverPut_l37 T k0 x3 S = some r) (K1 : ∀ a : (Int32 × zS), r = .inl a → zg g 3 mX5_bestNeverPut T 37 [some (.ref k0), none, none, some (.int a.1)] [] T a.2 v T S') (K2_0 : ∀ e : zS, r = .inr e → zg g 3 mX5_bestNeverPut T 68 [some (.ref k0), none, none, none] [] T e v T S') : zg g 3 mX5_bestNeverPut T 37 [some (.ref k0), none, none, some (.int x3)] [] T S v T S' := by
  unfold fX5_bestNeverPut_l37 at h
  refine z_iload_n dX5_bestNeverPut_37 rfl ?_
  refine z_aload_n dX5_bestNeverPut_38 rfl ?_
  refine z_gR (zF.x zfX5_9) h0.1 dX5_bestNeverPut_39 ?_
  refine z_gI (zF.x zfX5_78) h0.2.1.1 dX5_bestNeverPut_42 ?_
  refine z_icmp_ge (tgt := 68) dX5_bestNeverPut_45 (by decide) (fun q7 => ?_) (fun q7 => ?_)
  · rw [if_pos q7] at h
    cases h
    exact z_mask [true, false, false, false] rfl (K2_0 _ rfl)
  · rw [if_neg q7] at h
    refine z_aload_n dX5_bestNeverPut_48 rfl ?_
    refine z_aload_n dX5_bestNeverPut_49 rfl ?_
    refine z_gA (zF.x zfX5_32) h0.1 dX5_bestNeverPut_50 ?_
    refine z_iload_n dX5_bestNeverPut_53 rfl ?_
    refine z_iconst dX5_bestNeverPut_54 cI_0 ?_
    refine z_aload_n dX5_bestNeverPut_55 rfl ?_
    refine z_gA (zF.x zfX5_26) h0.1 dX5_bestNeverPut_56 ?_
    obtain ⟨r8, S10, hc9, h⟩ := zb_elim h
    refine z_callV (As := [.ref (zr T k0 11), .int x3, .int 0, .ref (zr T k0 9)]) zcX5 zkX5_81 ziX5_pass zqX5_pass h0.1 (tX5_pass T k0 (zr T k0 11) 256 x3 0 (zr T k0 9) 15360 S h0 h0.2.2.2.2.2.2.2.1 h0.2.2.2.2.2.1 (r8, S10) hc9) rfl rfl (Nat.le_of_ble_eq_true rfl) (by decide) ⟨Nat.le_refl _, Nat.le_refl _⟩ ⟨Nat.le_refl _, Nat.le_refl _⟩ dX5_bestNeverPut_59 ?_
    obtain ⟨u11, eu11, h⟩ := zlet_elim h
    refine z_iinc (r := u11) dX5_bestNeverPut_62 rfl (by rw [eu11, cI_1]) rfl (by decide) rfl ?_
    refine z_goto (tgt := 37) dX5_bestNeverPut_65 (by decide) ?_
    cases h
    exact z_mask [true, false, false, true] rfl (K1 _ rfl)
set_option maxHeartbeats 4000000 in
set_option maxRecDepth 100000 in
theorem tX5_bestNeverPut_l37 (T : zT) (k0 : Nat) (h0 : iX5 T k0) {g : zG} {v : Option Value} {S' : zS} : ∀ (n : Nat) (a : (Int32 × zS)) (e : zS), lpn (fun a => fX5_bestNeverPut_l37 T k0 a.1 a.2) n a = some e → (∀ e1 : zS, e = e1 → zg g 3 mX5_bestNeverPut T 68 [some (.ref k0), none, none, none] [] T e1 v T S') → zg g 3 mX5_bestNeverPut T 37 [some (.ref k0), none, none, some (.int a.1)] [] T a.2 v T S' := by
  intro n
  induction n with
  | zero =>
    intro a e h
    cases h
  | succ n ih =>
    intro a e h k0_
    rcases lpn_succ h with ⟨a1, ha_, hb_⟩ | ha_
    · exact tX5_bestNeverPut_l37b T k0 a.1 a.2 h0 _ ha_ (fun a2 q => by cases q; exact ih a1 e hb_ k0_) (fun e1 q => by cases q)
    · exact tX5_bestNeverPut_l37b T k0 a.1 a.2 h0 _ ha_ (fun a2 q => by cases q) (fun e1 q => by cases q; exact k0_ _ rfl)
set_option maxHeartbeats 4000000 in
set_option maxRecDepth 100000 in
theorem tX5_bestNeverPut (T : zT) (k0 : Nat) (x1 : Int32) (S : zS) (h0 : iX5 T k0) (r : Int32 × zS) (h : fX5_bestNeverPut T k0 x1 S = some r) : zGM 3 mX5_bestNeverPut [.ref k0, .int x1] T S (some (.int r.1)) T r.2 := by
  refine zGM_of zpnX5 rfl (Nat.le_of_ble_eq_true rfl) (fun g => ?_)
  show zg g 3 mX5_bestNeverPut T 0 [some (.ref k0), some (.int x1), none, none] [] T S (some (.int r.1)) T r.2
  unfold fX5_bestNeverPut at h
  refine z_aload_n dX5_bestNeverPut_0 rfl ?_
  refine z_gR (zF.x zfX5_9) h0.1 dX5_bestNeverPut_1 ?_
  refine z_gI (zF.x zfX5_64) h0.2.1.1 dX5_bestNeverPut_4 ?_
  refine z_aload_n dX5_bestNeverPut_7 rfl ?_
  refine z_gR (zF.x zfX5_9) h0.1 dX5_bestNeverPut_8 ?_
  refine z_gA zfX5_196 h0.2.1.1 dX5_bestNeverPut_11 ?_
  refine z_iload_n dX5_bestNeverPut_14 rfl ?_
  obtain ⟨q1, h⟩ := zgd_elim h
  refine z_iald h0.2.1.2.1 (zin_ok q1) dX5_bestNeverPut_15 ?_
  refine z_isub dX5_bestNeverPut_16 rfl ?_
  obtain ⟨u2, eu2, h⟩ := zlet_elim h
  refine z_ti eu2 ?_
  refine z_istore_n dX5_bestNeverPut_17 rfl (by decide) rfl ?_
  refine z_iload_n dX5_bestNeverPut_18 rfl ?_
  refine z_if_ge (tgt := 24) dX5_bestNeverPut_19 (by decide) (fun q3 => ?_) (fun q3 => ?_)
  · rw [if_pos q3] at h
    refine z_aload_n dX5_bestNeverPut_24 rfl ?_
    refine z_gA (zF.x zfX5_32) h0.1 dX5_bestNeverPut_25 ?_
    refine z_iconst dX5_bestNeverPut_28 cI_1 ?_
    refine z_iload_n dX5_bestNeverPut_29 rfl ?_
    refine z_ishl dX5_bestNeverPut_30 rfl ?_
    refine z_iload_n dX5_bestNeverPut_31 rfl ?_
    obtain ⟨r4, S6, hc5, h⟩ := zb_elim h
    refine z_callS (As := [.ref (zr T k0 11), .int (1 <<< (x1 &&& 31)), .int u2]) zkX5_68 zsX5_start (tX5_start T (zr T k0 11) 256 (1 <<< (x1 &&& 31)) u2 S h0.2.2.2.2.2.2.2.1 (r4, S6) hc5) rfl rfl (Nat.le_of_ble_eq_true rfl) (by decide) ⟨Nat.le_refl _, Nat.le_refl _⟩ ⟨Nat.le_refl _, Nat.le_refl _⟩ dX5_bestNeverPut_32 ?_
    refine z_iconst dX5_bestNeverPut_35 cI_0 ?_
    refine z_istore_n dX5_bestNeverPut_36 rfl (by decide) rfl ?_
    obtain ⟨e12, hl15, h⟩ := zb1_elim h
    obtain ⟨nf16, hl15⟩ := lp_some hl15
    refine z_mask [true, false, false, true] rfl (tX5_bestNeverPut_l37 T k0 h0 nf16 (0, S6) e12 hl15 (fun e_ q => ?_))
    · cases q
      refine z_aload_n dX5_bestNeverPut_68 rfl ?_
      refine z_gA (zF.x zfX5_32) h0.1 dX5_bestNeverPut_69 ?_
      obtain ⟨r13, hc14, h⟩ := zb1_elim h
      refine z_callS (As := [.ref (zr T k0 11)]) zkX5_94 zsX5_mostIn (tX5_mostIn T (zr T k0 11) 256 e12 h0.2.2.2.2.2.2.2.1 r13 hc14) rfl rfl (Nat.le_of_ble_eq_true rfl) (by decide) ⟨Nat.le_refl _, Nat.le_refl _⟩ ⟨Nat.le_refl _, Nat.le_refl _⟩ dX5_bestNeverPut_72 ?_
      cases h
      exact z_iret rfl dX5_bestNeverPut_75
  · rw [if_neg q3] at h
    refine z_iconst dX5_bestNeverPut_22 cI_m1 ?_
    cases h
    exact z_iret rfl dX5_bestNeverPut_23
/-! X5_bestBorrowing -/
noncomputable def fX5_bestBorrowing_b15 (T : zT)  (S : zS) : Option (Int32 × zS) :=
  some ((-1), S)
noncomputable def fX5_bestBorrowing_b120 (T : zT) (k0 : Nat) (x2 : Int32) (S : zS) : Option ((Int32 × zS) ⊕ zS) :=
  zb (fX5_pass T k0 (zr T k0 11) 256 x2 0 (zr T k0 9) 15360 S) fun _ S14 => zlet (x2 + 1) fun u15 => some (.inl (u15, S14))
noncomputable def fX5_bestBorrowing_l83 (T : zT) (k0 : Nat) (x2 : Int32) (S : zS) : Option ((Int32 × zS) ⊕ zS) :=
  if (S.1 (zr T k0 0) 1) ≤ x2 then some (.inr S) else if x2 = (S.1 (zr T k0 0) 5) then zb (fX5_shift T (zr T k0 11) 256 (-(S.1 (zr T k0 0) 4)) S) fun _ S18 => fX5_bestBorrowing_b120 T k0 x2 S18 else fX5_bestBorrowing_b120 T k0 x2 S
noncomputable def fX5_bestBorrowing_b67 (T : zT) (k0 : Nat) (x1 : Int32) (S : zS) : Option (Int32 × zS) :=
  zb (fX5_shift T (zr T k0 11) 256 (S.1 (zr T k0 0) 4) S) fun _ S9 => zb1 (lp (fun a => fX5_bestBorrowing_l83 T k0 a.1 a.2) (x1, S9)) fun e19 => zb1 (fX5_mostIn T (zr T k0 11) 256 e19) fun r20 => some (r20, e19)
noncomputable def fX5_bestBorrowing (T : zT) (k0 : Nat) (x1 : Int32) (S : zS) : Option (Int32 × zS) :=
  if x1 < 0 then fX5_bestBorrowing_b15 T  S else zb1 (fX0_cousinLendsIn T (zr T k0 0) x1 S) fun r2 => if r2 = 0 then fX5_bestBorrowing_b15 T  S else if x1 = 0 then zb (fX5_start T (zr T k0 11) 256 0 (S.1 (zr T k0 0) 2) S) fun _ S28 => fX5_bestBorrowing_b67 T k0 x1 S28 else if 60 < x1 then fX5_bestBorrowing_b67 T k0 x1 S else zgd (zcg ((x1 - 1) * 256) 0 256 15360 256) (zlet (zCp S (zr T k0 8) (zr T k0 11) (((x1 - 1) * 256) : Int32).toNatClampNeg (0 : Int32).toNatClampNeg (256 : Int32).toNatClampNeg) fun S25 => fX5_bestBorrowing_b67 T k0 x1 S25)
set_option maxHeartbeats 4000000 in
set_option maxRecDepth 100000 in
theorem tX5_bestBorrowing_b15 (T : zT)  (S : zS)  {g : zG} (r : (Int32 × zS)) (h : fX5_bestBorrowing_b15 T  S = some r)  : zg g 3 mX5_bestBorrowing T 15 [none, none, none] [] T S (some (.int r.1)) T r.2 := by
  unfold fX5_bestBorrowing_b15 at h
  refine z_iconst dX5_bestBorrowing_15 cI_m1 ?_
  cases h
  exact z_iret rfl dX5_bestBorrowing_16
set_option maxHeartbeats 4000000 in
set_option maxRecDepth 100000 in
theorem tX5_bestBorrowing_b120 (T : zT) (k0 : Nat) (x2 : Int32) (S : zS) (h0 : iX5 T k0) {g : zG} {v : Option Value} {S' : zS} (r : ((Int32 × zS) ⊕ zS)) (h : fX5_bestBorrowing_b120 T k0 x2 S = some r) (K1 : ∀ a : (Int32 × zS), r = .inl a → zg g 3 mX5_bestBorrowing T 83 [some (.ref k0), none, some (.int a.1)] [] T a.2 v T S') (K2_0 : ∀ e : zS, r = .inr e → zg g 3 mX5_bestBorrowing T 140 [some (.ref k0), none, none] [] T e v T S') : zg g 3 mX5_bestBorrowing T 120 [some (.ref k0), none, some (.int x2)] [] T S v T S' := by
  unfold fX5_bestBorrowing_b120 at h
  refine z_aload_n dX5_bestBorrowing_120 rfl ?_
  refine z_aload_n dX5_bestBorrowing_121 rfl ?_
  refine z_gA (zF.x zfX5_32) h0.1 dX5_bestBorrowing_122 ?_
  refine z_iload_n dX5_bestBorrowing_125 rfl ?_
  refine z_iconst dX5_bestBorrowing_126 cI_0 ?_
  refine z_aload_n dX5_bestBorrowing_127 rfl ?_
  refine z_gA (zF.x zfX5_26) h0.1 dX5_bestBorrowing_128 ?_
  obtain ⟨r12, S14, hc13, h⟩ := zb_elim h
  refine z_callV (As := [.ref (zr T k0 11), .int x2, .int 0, .ref (zr T k0 9)]) zcX5 zkX5_81 ziX5_pass zqX5_pass h0.1 (tX5_pass T k0 (zr T k0 11) 256 x2 0 (zr T k0 9) 15360 S h0 h0.2.2.2.2.2.2.2.1 h0.2.2.2.2.2.1 (r12, S14) hc13) rfl rfl (Nat.le_of_ble_eq_true rfl) (by decide) ⟨Nat.le_refl _, Nat.le_refl _⟩ ⟨Nat.le_refl _, Nat.le_refl _⟩ dX5_bestBorrowing_131 ?_
  obtain ⟨u15, eu15, h⟩ := zlet_elim h
  refine z_iinc (r := u15) dX5_bestBorrowing_134 rfl (by rw [eu15, cI_1]) rfl (by decide) rfl ?_
  refine z_goto (tgt := 83) dX5_bestBorrowing_137 (by decide) ?_
  cases h
  exact z_mask [true, false, true] rfl (K1 _ rfl)
set_option maxHeartbeats 4000000 in
set_option maxRecDepth 100000 in
theorem tX5_bestBorrowing_l83b (T : zT) (k0 : Nat) (x2 : Int32) (S : zS) (h0 : iX5 T k0) {g : zG} {v : Option Value} {S' : zS} (r : (Int32 × zS) ⊕ zS) (h : fX5_bestBorrowing_l83 T k0 x2 S = some r) (K1 : ∀ a : (Int32 × zS), r = .inl a → zg g 3 mX5_bestBorrowing T 83 [some (.ref k0), none, some (.int a.1)] [] T a.2 v T S') (K2_0 : ∀ e : zS, r = .inr e → zg g 3 mX5_bestBorrowing T 140 [some (.ref k0), none, none] [] T e v T S') : zg g 3 mX5_bestBorrowing T 83 [some (.ref k0), none, some (.int x2)] [] T S v T S' := by
  unfold fX5_bestBorrowing_l83 at h
  refine z_iload_n dX5_bestBorrowing_83 rfl ?_
  refine z_aload_n dX5_bestBorrowing_84 rfl ?_
  refine z_gR (zF.x zfX5_9) h0.1 dX5_bestBorrowing_85 ?_
  refine z_gI (zF.x zfX5_78) h0.2.1.1 dX5_bestBorrowing_88 ?_
  refine z_icmp_ge (tgt := 140) dX5_bestBorrowing_91 (by decide) (fun q10 => ?_) (fun q10 => ?_)
  · rw [if_pos q10] at h
    cases h
    exact z_mask [true, false, false] rfl (K2_0 _ rfl)
  · rw [if_neg q10] at h
    refine z_iload_n dX5_bestBorrowing_94 rfl ?_
    refine z_aload_n dX5_bestBorrowing_95 rfl ?_
    refine z_gR (zF.x zfX5_9) h0.1 dX5_bestBorrowing_96 ?_
    refine z_gI (zF.x zfX5_208) h0.2.1.1 dX5_bestBorrowing_99 ?_
    refine z_icmp_ne (tgt := 120) dX5_bestBorrowing_102 (by decide) (fun q11 => ?_) (fun q11 => ?_)
    · rw [if_neg q11] at h
      exact z_mask [true, false, true] rfl (tX5_bestBorrowing_b120 T k0 x2 S h0 r h K1 K2_0)
    · rw [if_pos q11] at h
      refine z_aload_n dX5_bestBorrowing_105 rfl ?_
      refine z_gA (zF.x zfX5_32) h0.1 dX5_bestBorrowing_106 ?_
      refine z_aload_n dX5_bestBorrowing_109 rfl ?_
      refine z_gR (zF.x zfX5_9) h0.1 dX5_bestBorrowing_110 ?_
      refine z_gI (zF.x zfX5_202) h0.2.1.1 dX5_bestBorrowing_113 ?_
      refine z_ineg dX5_bestBorrowing_116 rfl ?_
      obtain ⟨r16, S18, hc17, h⟩ := zb_elim h
      refine z_callS (As := [.ref (zr T k0 11), .int (-(S.1 (zr T k0 0) 4))]) zkX5_205 zsX5_shift (tX5_shift T (zr T k0 11) 256 (-(S.1 (zr T k0 0) 4)) S h0.2.2.2.2.2.2.2.1 (r16, S18) hc17) rfl rfl (Nat.le_of_ble_eq_true rfl) (by decide) ⟨Nat.le_refl _, Nat.le_refl _⟩ ⟨Nat.le_refl _, Nat.le_refl _⟩ dX5_bestBorrowing_117 ?_
      exact z_mask [true, false, true] rfl (tX5_bestBorrowing_b120 T k0 x2 S18 h0 r h K1 K2_0)
set_option maxHeartbeats 4000000 in
set_option maxRecDepth 100000 in
theorem tX5_bestBorrowing_l83 (T : zT) (k0 : Nat) (h0 : iX5 T k0) {g : zG} {v : Option Value} {S' : zS} : ∀ (n : Nat) (a : (Int32 × zS)) (e : zS), lpn (fun a => fX5_bestBorrowing_l83 T k0 a.1 a.2) n a = some e → (∀ e1 : zS, e = e1 → zg g 3 mX5_bestBorrowing T 140 [some (.ref k0), none, none] [] T e1 v T S') → zg g 3 mX5_bestBorrowing T 83 [some (.ref k0), none, some (.int a.1)] [] T a.2 v T S' := by
  intro n
  induction n with
  | zero =>
    intro a e h
    cases h
  | succ n ih =>
    intro a e h k0_
    rcases lpn_succ h with ⟨a1, ha_, hb_⟩ | ha_
    · exact tX5_bestBorrowing_l83b T k0 a.1 a.2 h0 _ ha_ (fun a2 q => by cases q; exact ih a1 e hb_ k0_) (fun e1 q => by cases q)
    · exact tX5_bestBorrowing_l83b T k0 a.1 a.2 h0 _ ha_ (fun a2 q => by cases q) (fun e1 q => by cases q; exact k0_ _ rfl)
set_option maxHeartbeats 4000000 in
set_option maxRecDepth 100000 in
theorem tX5_bestBorrowing_b67 (T : zT) (k0 : Nat) (x1 : Int32) (S : zS) (h0 : iX5 T k0) {g : zG} (r : (Int32 × zS)) (h : fX5_bestBorrowing_b67 T k0 x1 S = some r)  : zg g 3 mX5_bestBorrowing T 67 [some (.ref k0), some (.int x1), none] [] T S (some (.int r.1)) T r.2 := by
  unfold fX5_bestBorrowing_b67 at h
  refine z_aload_n dX5_bestBorrowing_67 rfl ?_
  refine z_gA (zF.x zfX5_32) h0.1 dX5_bestBorrowing_68 ?_
  refine z_aload_n dX5_bestBorrowing_71 rfl ?_
  refine z_gR (zF.x zfX5_9) h0.1 dX5_bestBorrowing_72 ?_
  refine z_gI (zF.x zfX5_202) h0.2.1.1 dX5_bestBorrowing_75 ?_
  obtain ⟨r7, S9, hc8, h⟩ := zb_elim h
  refine z_callS (As := [.ref (zr T k0 11), .int (S.1 (zr T k0 0) 4)]) zkX5_205 zsX5_shift (tX5_shift T (zr T k0 11) 256 (S.1 (zr T k0 0) 4) S h0.2.2.2.2.2.2.2.1 (r7, S9) hc8) rfl rfl (Nat.le_of_ble_eq_true rfl) (by decide) ⟨Nat.le_refl _, Nat.le_refl _⟩ ⟨Nat.le_refl _, Nat.le_refl _⟩ dX5_bestBorrowing_78 ?_
  refine z_iload_n dX5_bestBorrowing_81 rfl ?_
  refine z_istore_n dX5_bestBorrowing_82 rfl (by decide) rfl ?_
  obtain ⟨e19, hl22, h⟩ := zb1_elim h
  obtain ⟨nf23, hl22⟩ := lp_some hl22
  refine z_mask [true, false, true] rfl (tX5_bestBorrowing_l83 T k0 h0 nf23 (x1, S9) e19 hl22 (fun e_ q => ?_))
  · cases q
    refine z_aload_n dX5_bestBorrowing_140 rfl ?_
    refine z_gA (zF.x zfX5_32) h0.1 dX5_bestBorrowing_141 ?_
    obtain ⟨r20, hc21, h⟩ := zb1_elim h
    refine z_callS (As := [.ref (zr T k0 11)]) zkX5_94 zsX5_mostIn (tX5_mostIn T (zr T k0 11) 256 e19 h0.2.2.2.2.2.2.2.1 r20 hc21) rfl rfl (Nat.le_of_ble_eq_true rfl) (by decide) ⟨Nat.le_refl _, Nat.le_refl _⟩ ⟨Nat.le_refl _, Nat.le_refl _⟩ dX5_bestBorrowing_144 ?_
    cases h
    exact z_iret rfl dX5_bestBorrowing_147
set_option maxHeartbeats 4000000 in
set_option maxRecDepth 100000 in
theorem tX5_bestBorrowing (T : zT) (k0 : Nat) (x1 : Int32) (S : zS) (h0 : iX5 T k0) (r : Int32 × zS) (h : fX5_bestBorrowing T k0 x1 S = some r) : zGM 3 mX5_bestBorrowing [.ref k0, .int x1] T S (some (.int r.1)) T r.2 := by
  refine zGM_of zpnX5 rfl (Nat.le_of_ble_eq_true rfl) (fun g => ?_)
  show zg g 3 mX5_bestBorrowing T 0 [some (.ref k0), some (.int x1), none] [] T S (some (.int r.1)) T r.2
  unfold fX5_bestBorrowing at h
  refine z_iload_n dX5_bestBorrowing_0 rfl ?_
  refine z_if_lt (tgt := 15) dX5_bestBorrowing_1 (by decide) (fun q1 => ?_) (fun q1 => ?_)
  · rw [if_pos q1] at h
    exact z_mask [false, false, false] rfl (tX5_bestBorrowing_b15 T  S  r h)
  · rw [if_neg q1] at h
    refine z_aload_n dX5_bestBorrowing_4 rfl ?_
    refine z_gR (zF.x zfX5_9) h0.1 dX5_bestBorrowing_5 ?_
    refine z_iload_n dX5_bestBorrowing_8 rfl ?_
    obtain ⟨r2, hc3, h⟩ := zb1_elim h
    refine z_callV (As := [.int x1]) zcX0 zkX5_199 ziX0_cousinLendsIn zqX0_cousinLendsIn h0.2.1.1 (tX0_cousinLendsIn T (zr T k0 0) x1 S h0.2.1 r2 hc3) rfl rfl (Nat.le_of_ble_eq_true rfl) (by decide) ⟨Nat.le_refl _, Nat.le_refl _⟩ ⟨Nat.le_refl _, Nat.le_refl _⟩ dX5_bestBorrowing_9 ?_
    refine z_if_ne (tgt := 17) dX5_bestBorrowing_12 (by decide) (fun q4 => ?_) (fun q4 => ?_)
    · rw [if_neg q4] at h
      refine z_iload_n dX5_bestBorrowing_17 rfl ?_
      refine z_if_ne (tgt := 39) dX5_bestBorrowing_18 (by decide) (fun q5 => ?_) (fun q5 => ?_)
      · rw [if_neg q5] at h
        refine z_iload_n dX5_bestBorrowing_39 rfl ?_
        refine z_bipush dX5_bestBorrowing_40 cB_60 ?_
        refine z_icmp_gt (tgt := 67) dX5_bestBorrowing_42 (by decide) (fun q6 => ?_) (fun q6 => ?_)
        · rw [if_pos q6] at h
          exact z_mask [true, true, false] rfl (tX5_bestBorrowing_b67 T k0 x1 S h0 r h)
        · rw [if_neg q6] at h
          refine z_aload_n dX5_bestBorrowing_45 rfl ?_
          refine z_gA (zF.x zfX5_23) h0.1 dX5_bestBorrowing_46 ?_
          refine z_iload_n dX5_bestBorrowing_49 rfl ?_
          refine z_iconst dX5_bestBorrowing_50 cI_1 ?_
          refine z_isub dX5_bestBorrowing_51 rfl ?_
          refine z_sipush dX5_bestBorrowing_52 cS_256 ?_
          refine z_imul dX5_bestBorrowing_55 rfl ?_
          refine z_aload_n dX5_bestBorrowing_56 rfl ?_
          refine z_gA (zF.x zfX5_32) h0.1 dX5_bestBorrowing_57 ?_
          refine z_iconst dX5_bestBorrowing_60 cI_0 ?_
          refine z_sipush dX5_bestBorrowing_61 cS_256 ?_
          obtain ⟨q24, h⟩ := zgd_elim h
          obtain ⟨q24a, q24b, q24c, q24d, q24e⟩ := zcg_ok q24
          refine z_copy zxX5_85 zcp_native zcp_static zjJ10 h0.2.2.2.2.1 h0.2.2.2.2.2.2.2.1 q24a q24b q24c q24d q24e (by decide) (Nat.le_of_ble_eq_true rfl) dX5_bestBorrowing_64 ?_
          obtain ⟨S25, eS25, h⟩ := zlet_elim h
          refine z_tS eS25 ?_
          exact z_mask [true, true, false] rfl (tX5_bestBorrowing_b67 T k0 x1 S25 h0 r h)
      · rw [if_pos q5] at h
        refine z_aload_n dX5_bestBorrowing_21 rfl ?_
        refine z_gA (zF.x zfX5_32) h0.1 dX5_bestBorrowing_22 ?_
        refine z_iconst dX5_bestBorrowing_25 cI_0 ?_
        refine z_aload_n dX5_bestBorrowing_26 rfl ?_
        refine z_gR (zF.x zfX5_9) h0.1 dX5_bestBorrowing_27 ?_
        refine z_gI (zF.x zfX5_64) h0.2.1.1 dX5_bestBorrowing_30 ?_
        obtain ⟨r26, S28, hc27, h⟩ := zb_elim h
        refine z_callS (As := [.ref (zr T k0 11), .int 0, .int (S.1 (zr T k0 0) 2)]) zkX5_68 zsX5_start (tX5_start T (zr T k0 11) 256 0 (S.1 (zr T k0 0) 2) S h0.2.2.2.2.2.2.2.1 (r26, S28) hc27) rfl rfl (Nat.le_of_ble_eq_true rfl) (by decide) ⟨Nat.le_refl _, Nat.le_refl _⟩ ⟨Nat.le_refl _, Nat.le_refl _⟩ dX5_bestBorrowing_33 ?_
        refine z_goto (tgt := 67) dX5_bestBorrowing_36 (by decide) ?_
        exact z_mask [true, true, false] rfl (tX5_bestBorrowing_b67 T k0 x1 S28 h0 r h)
    · rw [if_pos q4] at h
      exact z_mask [false, false, false] rfl (tX5_bestBorrowing_b15 T  S  r h)
/-! X5_bestSellingFromLine -/
noncomputable def fX5_bestSellingFromLine_l34 (T : zT) (k0 : Nat) (x1 : Int32) (x3 : Int32) (S : zS) : Option ((Int32 × zS) ⊕ zS) :=
  if (S.1 (zr T k0 0) 1) ≤ x3 then some (.inr S) else zb1 (fX5_gainsWithout T k0 x1 x3 S) fun r8 => zb (fX5_pass T k0 (zr T k0 12) 256 x3 (1 <<< (x1 &&& 31)) r8 15360 S) fun _ S12 => zlet (x3 + 1) fun u13 => some (.inl (u13, S12))
noncomputable def fX5_bestSellingFromLine (T : zT) (k0 : Nat) (x1 : Int32) (x2 : Int32) (S : zS) : Option (Int32 × zS) :=
  zgd (zcg 0 0 256 256 256) (zlet (zCp S (zr T k0 11) (zr T k0 12) (0 : Int32).toNatClampNeg (0 : Int32).toNatClampNeg (256 : Int32).toNatClampNeg) fun S2 => zgd (zin x1 8) (zb (fX5_shift T (zr T k0 12) 256 (S2.1 (zr T (zr T k0 0) 10) (x1 : Int32).toNatClampNeg) S2) fun _ S6 => zb1 (lp (fun a => fX5_bestSellingFromLine_l34 T k0 x1 a.1 a.2) (x2, S6)) fun e14 => zb1 (fX5_mostIn T (zr T k0 12) 256 e14) fun r15 => some (r15, e14)))
set_option maxHeartbeats 4000000 in
set_option maxRecDepth 100000 in
theorem tX5_bestSellingFromLine_l34b (T : zT) (k0 : Nat) (x1 : Int32) (x3 : Int32) (S : zS) (h0 : iX5 T k0) {g : zG} {v : Option Value} {S' : zS} (r : (Int32 × zS) ⊕ zS) (h : fX5_bestSellingFromLine_l34 T k0 x1 x3 S = some r) (K1 : ∀ a : (Int32 × zS), r = .inl a → zg g 3 mX5_bestSellingFromLine T 34 [some (.ref k0), some (.int x1), none, some (.int a.1)] [] T a.2 v T S') (K2_0 : ∀ e : zS, r = .inr e → zg g 3 mX5_bestSellingFromLine T 69 [some (.ref k0), none, none, none] [] T e v T S') : zg g 3 mX5_bestSellingFromLine T 34 [some (.ref k0), some (.int x1), none, some (.int x3)] [] T S v T S' := by
  unfold fX5_bestSellingFromLine_l34 at h
  refine z_iload_n dX5_bestSellingFromLine_34 rfl ?_
  refine z_aload_n dX5_bestSellingFromLine_35 rfl ?_
  refine z_gR (zF.x zfX5_9) h0.1 dX5_bestSellingFromLine_36 ?_
  refine z_gI (zF.x zfX5_78) h0.2.1.1 dX5_bestSellingFromLine_39 ?_
  refine z_icmp_ge (tgt := 69) dX5_bestSellingFromLine_42 (by decide) (fun q7 => ?_) (fun q7 => ?_)
  · rw [if_pos q7] at h
    cases h
    exact z_mask [true, false, false, false] rfl (K2_0 _ rfl)
  · rw [if_neg q7] at h
    refine z_aload_n dX5_bestSellingFromLine_45 rfl ?_
    refine z_aload_n dX5_bestSellingFromLine_46 rfl ?_
    refine z_gA (zF.x zfX5_35) h0.1 dX5_bestSellingFromLine_47 ?_
    refine z_iload_n dX5_bestSellingFromLine_50 rfl ?_
    refine z_iconst dX5_bestSellingFromLine_51 cI_1 ?_
    refine z_iload_n dX5_bestSellingFromLine_52 rfl ?_
    refine z_ishl dX5_bestSellingFromLine_53 rfl ?_
    refine z_aload_n dX5_bestSellingFromLine_54 rfl ?_
    refine z_iload_n dX5_bestSellingFromLine_55 rfl ?_
    refine z_iload_n dX5_bestSellingFromLine_56 rfl ?_
    obtain ⟨r8, hc9, h⟩ := zb1_elim h
    refine z_callV (As := [.int x1, .int x3]) zcX5 zkX5_186 ziX5_gainsWithout zqX5_gainsWithout h0.1 (tX5_gainsWithout T k0 x1 x3 S h0 r8 hc9) rfl rfl (Nat.le_of_ble_eq_true rfl) (by decide) ⟨Nat.le_refl _, Nat.le_refl _⟩ ⟨Nat.le_refl _, Nat.le_refl _⟩ dX5_bestSellingFromLine_57 ?_
    obtain ⟨r10, S12, hc11, h⟩ := zb_elim h
    refine z_callV (As := [.ref (zr T k0 12), .int x3, .int (1 <<< (x1 &&& 31)), .ref r8]) zcX5 zkX5_81 ziX5_pass zqX5_pass h0.1 (tX5_pass T k0 (zr T k0 12) 256 x3 (1 <<< (x1 &&& 31)) r8 15360 S h0 h0.2.2.2.2.2.2.2.2.1 (uX5_gainsWithout T k0 x1 x3 S h0 r8 hc9) (r10, S12) hc11) rfl rfl (Nat.le_of_ble_eq_true rfl) (by decide) ⟨Nat.le_refl _, Nat.le_refl _⟩ ⟨Nat.le_refl _, Nat.le_refl _⟩ dX5_bestSellingFromLine_60 ?_
    obtain ⟨u13, eu13, h⟩ := zlet_elim h
    refine z_iinc (r := u13) dX5_bestSellingFromLine_63 rfl (by rw [eu13, cI_1]) rfl (by decide) rfl ?_
    refine z_goto (tgt := 34) dX5_bestSellingFromLine_66 (by decide) ?_
    cases h
    exact z_mask [true, true, false, true] rfl (K1 _ rfl)
set_option maxHeartbeats 4000000 in
set_option maxRecDepth 100000 in
theorem tX5_bestSellingFromLine_l34 (T : zT) (k0 : Nat) (x1 : Int32) (h0 : iX5 T k0) {g : zG} {v : Option Value} {S' : zS} : ∀ (n : Nat) (a : (Int32 × zS)) (e : zS), lpn (fun a => fX5_bestSellingFromLine_l34 T k0 x1 a.1 a.2) n a = some e → (∀ e1 : zS, e = e1 → zg g 3 mX5_bestSellingFromLine T 69 [some (.ref k0), none, none, none] [] T e1 v T S') → zg g 3 mX5_bestSellingFromLine T 34 [some (.ref k0), some (.int x1), none, some (.int a.1)] [] T a.2 v T S' := by
  intro n
  induction n with
  | zero =>
    intro a e h
    cases h
  | succ n ih =>
    intro a e h k0_
    rcases lpn_succ h with ⟨a1, ha_, hb_⟩ | ha_
    · exact tX5_bestSellingFromLine_l34b T k0 x1 a.1 a.2 h0 _ ha_ (fun a2 q => by cases q; exact ih a1 e hb_ k0_) (fun e1 q => by cases q)
    · exact tX5_bestSellingFromLine_l34b T k0 x1 a.1 a.2 h0 _ ha_ (fun a2 q => by cases q) (fun e1 q => by cases q; exact k0_ _ rfl)
set_option maxHeartbeats 4000000 in
set_option maxRecDepth 100000 in
theorem tX5_bestSellingFromLine (T : zT) (k0 : Nat) (x1 : Int32) (x2 : Int32) (S : zS) (h0 : iX5 T k0) (r : Int32 × zS) (h : fX5_bestSellingFromLine T k0 x1 x2 S = some r) : zGM 3 mX5_bestSellingFromLine [.ref k0, .int x1, .int x2] T S (some (.int r.1)) T r.2 := by
  refine zGM_of zpnX5 rfl (Nat.le_of_ble_eq_true rfl) (fun g => ?_)
  show zg g 3 mX5_bestSellingFromLine T 0 [some (.ref k0), some (.int x1), some (.int x2), none] [] T S (some (.int r.1)) T r.2
  unfold fX5_bestSellingFromLine at h
  refine z_aload_n dX5_bestSellingFromLine_0 rfl ?_
  refine z_gA (zF.x zfX5_32) h0.1 dX5_bestSellingFromLine_1 ?_
  refine z_iconst dX5_bestSellingFromLine_4 cI_0 ?_
  refine z_aload_n dX5_bestSellingFromLine_5 rfl ?_
  refine z_gA (zF.x zfX5_35) h0.1 dX5_bestSellingFromLine_6 ?_
  refine z_iconst dX5_bestSellingFromLine_9 cI_0 ?_
  refine z_sipush dX5_bestSellingFromLine_10 cS_256 ?_
  obtain ⟨q1, h⟩ := zgd_elim h
  obtain ⟨q1a, q1b, q1c, q1d, q1e⟩ := zcg_ok q1
  refine z_copy zxX5_85 zcp_native zcp_static zjJ10 h0.2.2.2.2.2.2.2.1 h0.2.2.2.2.2.2.2.2.1 q1a q1b q1c q1d q1e (by decide) (Nat.le_of_ble_eq_true rfl) dX5_bestSellingFromLine_13 ?_
  obtain ⟨S2, eS2, h⟩ := zlet_elim h
  refine z_tS eS2 ?_
  refine z_aload_n dX5_bestSellingFromLine_16 rfl ?_
  refine z_gA (zF.x zfX5_35) h0.1 dX5_bestSellingFromLine_17 ?_
  refine z_aload_n dX5_bestSellingFromLine_20 rfl ?_
  refine z_gR (zF.x zfX5_9) h0.1 dX5_bestSellingFromLine_21 ?_
  refine z_gA zfX5_217 h0.2.1.1 dX5_bestSellingFromLine_24 ?_
  refine z_iload_n dX5_bestSellingFromLine_27 rfl ?_
  obtain ⟨q3, h⟩ := zgd_elim h
  refine z_iald h0.2.1.2.2.2.2.2.1 (zin_ok q3) dX5_bestSellingFromLine_28 ?_
  obtain ⟨r4, S6, hc5, h⟩ := zb_elim h
  refine z_callS (As := [.ref (zr T k0 12), .int (S2.1 (zr T (zr T k0 0) 10) (x1 : Int32).toNatClampNeg)]) zkX5_205 zsX5_shift (tX5_shift T (zr T k0 12) 256 (S2.1 (zr T (zr T k0 0) 10) (x1 : Int32).toNatClampNeg) S2 h0.2.2.2.2.2.2.2.2.1 (r4, S6) hc5) rfl rfl (Nat.le_of_ble_eq_true rfl) (by decide) ⟨Nat.le_refl _, Nat.le_refl _⟩ ⟨Nat.le_refl _, Nat.le_refl _⟩ dX5_bestSellingFromLine_29 ?_
  refine z_iload_n dX5_bestSellingFromLine_32 rfl ?_
  refine z_istore_n dX5_bestSellingFromLine_33 rfl (by decide) rfl ?_
  obtain ⟨e14, hl17, h⟩ := zb1_elim h
  obtain ⟨nf18, hl17⟩ := lp_some hl17
  refine z_mask [true, true, false, true] rfl (tX5_bestSellingFromLine_l34 T k0 x1 h0 nf18 (x2, S6) e14 hl17 (fun e_ q => ?_))
  · cases q
    refine z_aload_n dX5_bestSellingFromLine_69 rfl ?_
    refine z_gA (zF.x zfX5_35) h0.1 dX5_bestSellingFromLine_70 ?_
    obtain ⟨r15, hc16, h⟩ := zb1_elim h
    refine z_callS (As := [.ref (zr T k0 12)]) zkX5_94 zsX5_mostIn (tX5_mostIn T (zr T k0 12) 256 e14 h0.2.2.2.2.2.2.2.2.1 r15 hc16) rfl rfl (Nat.le_of_ble_eq_true rfl) (by decide) ⟨Nat.le_refl _, Nat.le_refl _⟩ ⟨Nat.le_refl _, Nat.le_refl _⟩ dX5_bestSellingFromLine_73 ?_
    cases h
    exact z_iret rfl dX5_bestSellingFromLine_76
/-! X5_fillGains -/
noncomputable def fX5_fillGains_b169 (T : zT) (k0 : Nat) (k1 : Nat) (n1 : Nat) (x2 : Int32) (x3 : Int32) (x4 : Int32) (x5 : Int32) (S : zS) : Option ((Int32 × zS) ⊕ zS) :=
  zlet (x5 + 1) fun u18 => some (.inl (u18, S))
noncomputable def fX5_fillGains_l37 (T : zT) (k0 : Nat) (k1 : Nat) (n1 : Nat) (x2 : Int32) (x3 : Int32) (x4 : Int32) (x5 : Int32) (S : zS) : Option ((Int32 × zS) ⊕ zS) :=
  if (S.1 (zr T k0 0) 0) < x5 then some (.inr S) else if 256 ≤ x5 then some (.inr S) else zb1 (fJ6_bitCount_0f7a4 T (((S.1 (zr T k0 0) 0) &&& (x5 ^^^ (-1))) &&& (x4 ^^^ (-1))) S) fun r10 => zlet (r10 - x2) fun u12 => zb1 (fJ6_bitCount_0f7a4 T x5 S) fun r13 => zlet (if u12 < 0 then 0 else u12) fun u15 => zlet ((r13 * 9) + u15) fun u16 => if (Int32.ofNat 81) ≤ u16 then fX5_fillGains_b169 T k0 k1 n1 x2 x3 x4 x5 S else zb1 (fX0_hasAll T (zr T k0 0) x5 S) fun r19 => if r19 = 0 then fX5_fillGains_b169 T k0 k1 n1 x2 x3 x4 x5 S else zgd (zin u16 81) (zb1 (fX1_together T (zr T (zr T k0 0) 12) (S.1 (zr T k0 13) (u16 : Int32).toNatClampNeg) x5 S) fun r23 => zgd (zin u16 81) (zb1 (fX1_together T (zr T (zr T k0 0) 13) (S.1 (zr T k0 14) (u16 : Int32).toNatClampNeg) x5 S) fun r26 => zgd (zin ((x3 * 256) + x5) n1) (zlet (zI S k1 (((x3 * 256) + x5) : Int32).toNatClampNeg (r23 - r26)) fun S29 => fX5_fillGains_b169 T k0 k1 n1 x2 x3 x4 x5 S29)))
noncomputable def fX5_fillGains_b175 (T : zT) (k0 : Nat) (k1 : Nat) (n1 : Nat) (x2 : Int32) (x3 : Int32) (S : zS) : Option ((Int32 × zS) ⊕ zS) :=
  zlet (x3 + 1) fun u31 => some (.inl (u31, S))
noncomputable def fX5_fillGains_l2 (T : zT) (k0 : Nat) (k1 : Nat) (n1 : Nat) (x2 : Int32) (x3 : Int32) (S : zS) : Option ((Int32 × zS) ⊕ zS) :=
  if (S.1 (zr T k0 0) 1) ≤ x3 then some (.inr S) else if 60 ≤ x3 then some (.inr S) else zb (fX5_fillHolding T k0 x3 S) fun _ S5 => zb1 (fX0_lostBy T (zr T k0 0) x3 S5) fun r6 => zb1 (lp (fun a => fX5_fillGains_l37 T k0 k1 n1 x2 x3 r6 a.1 a.2) (0, S5)) fun e30 => fX5_fillGains_b175 T k0 k1 n1 x2 x3 e30
noncomputable def fX5_fillGains_b181 (T : zT)  (S : zS) : Option (Unit × zS) :=
  some ((), S)
noncomputable def fX5_fillGains (T : zT) (k0 : Nat) (k1 : Nat) (n1 : Nat) (x2 : Int32) (S : zS) : Option (Unit × zS) :=
  zb1 (lp (fun a => fX5_fillGains_l2 T k0 k1 n1 x2 a.1 a.2) (0, S)) fun e34 => fX5_fillGains_b181 T  e34
set_option maxHeartbeats 4000000 in
set_option maxRecDepth 100000 in
theorem tX5_fillGains_b169 (T : zT) (k0 : Nat) (k1 : Nat) (n1 : Nat) (x2 : Int32) (x3 : Int32) (x4 : Int32) (x5 : Int32) (S : zS) (h0 : iX5 T k0) (h1 : zL T k1 20 n1) {g : zG} {v : Option Value} {S' : zS} (r : ((Int32 × zS) ⊕ zS)) (h : fX5_fillGains_b169 T k0 k1 n1 x2 x3 x4 x5 S = some r) (K1 : ∀ a : (Int32 × zS), r = .inl a → zg g 4 mX5_fillGains T 37 [some (.ref k0), some (.ref k1), some (.int x2), some (.int x3), some (.int x4), some (.int a.1), none, none] [] T a.2 v T S') (K2_0 : ∀ e : zS, r = .inr e → zg g 4 mX5_fillGains T 175 [some (.ref k0), some (.ref k1), some (.int x2), some (.int x3), none, none, none, none] [] T e v T S') : zg g 4 mX5_fillGains T 169 [some (.ref k0), some (.ref k1), some (.int x2), some (.int x3), some (.int x4), some (.int x5), none, none] [] T S v T S' := by
  unfold fX5_fillGains_b169 at h
  obtain ⟨u18, eu18, h⟩ := zlet_elim h
  refine z_iinc (r := u18) dX5_fillGains_169 rfl (by rw [eu18, cI_1]) rfl (by decide) rfl ?_
  refine z_goto (tgt := 37) dX5_fillGains_172 (by decide) ?_
  cases h
  exact z_mask [true, true, true, true, true, true, false, false] rfl (K1 _ rfl)
set_option maxHeartbeats 4000000 in
set_option maxRecDepth 100000 in
theorem tX5_fillGains_l37b (T : zT) (k0 : Nat) (k1 : Nat) (n1 : Nat) (x2 : Int32) (x3 : Int32) (x4 : Int32) (x5 : Int32) (S : zS) (h0 : iX5 T k0) (h1 : zL T k1 20 n1) {g : zG} {v : Option Value} {S' : zS} (r : (Int32 × zS) ⊕ zS) (h : fX5_fillGains_l37 T k0 k1 n1 x2 x3 x4 x5 S = some r) (K1 : ∀ a : (Int32 × zS), r = .inl a → zg g 4 mX5_fillGains T 37 [some (.ref k0), some (.ref k1), some (.int x2), some (.int x3), some (.int x4), some (.int a.1), none, none] [] T a.2 v T S') (K2_0 : ∀ e : zS, r = .inr e → zg g 4 mX5_fillGains T 175 [some (.ref k0), some (.ref k1), some (.int x2), some (.int x3), none, none, none, none] [] T e v T S') : zg g 4 mX5_fillGains T 37 [some (.ref k0), some (.ref k1), some (.int x2), some (.int x3), some (.int x4), some (.int x5), none, none] [] T S v T S' := by
  unfold fX5_fillGains_l37 at h
  refine z_iload dX5_fillGains_37 rfl ?_
  refine z_aload_n dX5_fillGains_39 rfl ?_
  refine z_gR (zF.x zfX5_9) h0.1 dX5_fillGains_40 ?_
  refine z_gI (zF.x zfX5_111) h0.2.1.1 dX5_fillGains_43 ?_
  refine z_icmp_gt (tgt := 175) dX5_fillGains_46 (by decide) (fun q8 => ?_) (fun q8 => ?_)
  · rw [if_pos q8] at h
    cases h
    exact z_mask [true, true, true, true, false, false, false, false] rfl (K2_0 _ rfl)
  · rw [if_neg q8] at h
    refine z_iload dX5_fillGains_49 rfl ?_
    refine z_sipush dX5_fillGains_51 cS_256 ?_
    refine z_icmp_ge (tgt := 175) dX5_fillGains_54 (by decide) (fun q9 => ?_) (fun q9 => ?_)
    · rw [if_pos q9] at h
      cases h
      exact z_mask [true, true, true, true, false, false, false, false] rfl (K2_0 _ rfl)
    · rw [if_neg q9] at h
      refine z_aload_n dX5_fillGains_57 rfl ?_
      refine z_gR (zF.x zfX5_9) h0.1 dX5_fillGains_58 ?_
      refine z_gI (zF.x zfX5_111) h0.2.1.1 dX5_fillGains_61 ?_
      refine z_iload dX5_fillGains_64 rfl ?_
      refine z_iconst dX5_fillGains_66 cI_m1 ?_
      refine z_ixor dX5_fillGains_67 rfl ?_
      refine z_iand dX5_fillGains_68 rfl ?_
      refine z_iload dX5_fillGains_69 rfl ?_
      refine z_iconst dX5_fillGains_71 cI_m1 ?_
      refine z_ixor dX5_fillGains_72 rfl ?_
      refine z_iand dX5_fillGains_73 rfl ?_
      obtain ⟨r10, hc11, h⟩ := zb1_elim h
      refine z_callS (As := [.int (((S.1 (zr T k0 0) 0) &&& (x5 ^^^ (-1))) &&& (x4 ^^^ (-1)))]) zkX5_122 zsJ6_bitCount_0f7a4 (tJ6_bitCount_0f7a4 T (((S.1 (zr T k0 0) 0) &&& (x5 ^^^ (-1))) &&& (x4 ^^^ (-1))) S  r10 hc11) rfl rfl (Nat.le_of_ble_eq_true rfl) (by decide) ⟨Nat.le_refl _, Nat.le_refl _⟩ ⟨Nat.le_refl _, Nat.le_refl _⟩ dX5_fillGains_74 ?_
      refine z_iload_n dX5_fillGains_77 rfl ?_
      refine z_isub dX5_fillGains_78 rfl ?_
      obtain ⟨u12, eu12, h⟩ := zlet_elim h
      refine z_ti eu12 ?_
      refine z_istore dX5_fillGains_79 rfl (by decide) rfl ?_
      refine z_iload dX5_fillGains_81 rfl ?_
      obtain ⟨r13, hc14, h⟩ := zb1_elim h
      refine z_callS (As := [.int x5]) zkX5_122 zsJ6_bitCount_0f7a4 (tJ6_bitCount_0f7a4 T x5 S  r13 hc14) rfl rfl (Nat.le_of_ble_eq_true rfl) (by decide) ⟨Nat.le_refl _, Nat.le_refl _⟩ ⟨Nat.le_refl _, Nat.le_refl _⟩ dX5_fillGains_83 ?_
      refine z_bipush dX5_fillGains_86 cB_9 ?_
      refine z_imul dX5_fillGains_88 rfl ?_
      refine z_iload dX5_fillGains_89 rfl ?_
      refine z_iconst dX5_fillGains_91 cI_0 ?_
      refine z_mmax zxX5_127 zmmax_static zjJ9 zmmax_code rfl (by decide) (Nat.le_of_ble_eq_true rfl) ⟨Nat.le_refl _, Nat.le_refl _⟩ dX5_fillGains_92 ?_
      obtain ⟨u15, eu15, h⟩ := zlet_elim h
      refine z_ti eu15 ?_
      refine z_iadd dX5_fillGains_95 rfl ?_
      obtain ⟨u16, eu16, h⟩ := zlet_elim h
      refine z_ti eu16 ?_
      refine z_istore dX5_fillGains_96 rfl (by decide) rfl ?_
      refine z_iload dX5_fillGains_98 rfl ?_
      refine z_aload_n dX5_fillGains_100 rfl ?_
      refine z_gA (zF.x zfX5_38) h0.1 dX5_fillGains_101 ?_
      refine z_alenI h0.2.2.2.2.2.2.2.2.2.1 (by decide) dX5_fillGains_104 ?_
      refine z_icmp_ge (tgt := 169) dX5_fillGains_105 (by decide) (fun q17 => ?_) (fun q17 => ?_)
      · rw [if_pos q17] at h
        exact z_mask [true, true, true, true, true, true, false, false] rfl (tX5_fillGains_b169 T k0 k1 n1 x2 x3 x4 x5 S h0 h1 r h K1 K2_0)
      · rw [if_neg q17] at h
        refine z_aload_n dX5_fillGains_108 rfl ?_
        refine z_gR (zF.x zfX5_9) h0.1 dX5_fillGains_109 ?_
        refine z_iload dX5_fillGains_112 rfl ?_
        obtain ⟨r19, hc20, h⟩ := zb1_elim h
        refine z_callV (As := [.int x5]) zcX0 zkX5_133 ziX0_hasAll zqX0_hasAll h0.2.1.1 (tX0_hasAll T (zr T k0 0) x5 S h0.2.1 r19 hc20) rfl rfl (Nat.le_of_ble_eq_true rfl) (by decide) ⟨Nat.le_refl _, Nat.le_refl _⟩ ⟨Nat.le_refl _, Nat.le_refl _⟩ dX5_fillGains_114 ?_
        refine z_if_eq (tgt := 169) dX5_fillGains_117 (by decide) (fun q21 => ?_) (fun q21 => ?_)
        · rw [if_pos q21] at h
          exact z_mask [true, true, true, true, true, true, false, false] rfl (tX5_fillGains_b169 T k0 k1 n1 x2 x3 x4 x5 S h0 h1 r h K1 K2_0)
        · rw [if_neg q21] at h
          refine z_aload_n dX5_fillGains_120 rfl ?_
          refine z_iload_n dX5_fillGains_121 rfl ?_
          refine z_sipush dX5_fillGains_122 cS_256 ?_
          refine z_imul dX5_fillGains_125 rfl ?_
          refine z_iload dX5_fillGains_126 rfl ?_
          refine z_iadd dX5_fillGains_128 rfl ?_
          refine z_aload_n dX5_fillGains_129 rfl ?_
          refine z_gR (zF.x zfX5_9) h0.1 dX5_fillGains_130 ?_
          refine z_gR zfX5_136 h0.2.1.1 dX5_fillGains_133 ?_
          refine z_aload_n dX5_fillGains_136 rfl ?_
          refine z_gA (zF.x zfX5_38) h0.1 dX5_fillGains_137 ?_
          refine z_iload dX5_fillGains_140 rfl ?_
          obtain ⟨q22, h⟩ := zgd_elim h
          refine z_iald h0.2.2.2.2.2.2.2.2.2.1 (zin_ok q22) dX5_fillGains_142 ?_
          refine z_iload dX5_fillGains_143 rfl ?_
          obtain ⟨r23, hc24, h⟩ := zb1_elim h
          refine z_callV (As := [.int (S.1 (zr T k0 13) (u16 : Int32).toNatClampNeg), .int x5]) zcX1 zkX5_140 ziX1_together zqX1_together h0.2.1.2.2.2.2.2.2.2.1.1 (tX1_together T (zr T (zr T k0 0) 12) (S.1 (zr T k0 13) (u16 : Int32).toNatClampNeg) x5 S h0.2.1.2.2.2.2.2.2.2.1 r23 hc24) rfl rfl (Nat.le_of_ble_eq_true rfl) (by decide) ⟨Nat.le_refl _, Nat.le_refl _⟩ ⟨Nat.le_refl _, Nat.le_refl _⟩ dX5_fillGains_145 ?_
          refine z_aload_n dX5_fillGains_148 rfl ?_
          refine z_gR (zF.x zfX5_9) h0.1 dX5_fillGains_149 ?_
          refine z_gR zfX5_145 h0.2.1.1 dX5_fillGains_152 ?_
          refine z_aload_n dX5_fillGains_155 rfl ?_
          refine z_gA (zF.x zfX5_41) h0.1 dX5_fillGains_156 ?_
          refine z_iload dX5_fillGains_159 rfl ?_
          obtain ⟨q25, h⟩ := zgd_elim h
          refine z_iald h0.2.2.2.2.2.2.2.2.2.2 (zin_ok q25) dX5_fillGains_161 ?_
          refine z_iload dX5_fillGains_162 rfl ?_
          obtain ⟨r26, hc27, h⟩ := zb1_elim h
          refine z_callV (As := [.int (S.1 (zr T k0 14) (u16 : Int32).toNatClampNeg), .int x5]) zcX1 zkX5_140 ziX1_together zqX1_together h0.2.1.2.2.2.2.2.2.2.2.1.1 (tX1_together T (zr T (zr T k0 0) 13) (S.1 (zr T k0 14) (u16 : Int32).toNatClampNeg) x5 S h0.2.1.2.2.2.2.2.2.2.2.1 r26 hc27) rfl rfl (Nat.le_of_ble_eq_true rfl) (by decide) ⟨Nat.le_refl _, Nat.le_refl _⟩ ⟨Nat.le_refl _, Nat.le_refl _⟩ dX5_fillGains_164 ?_
          refine z_isub dX5_fillGains_167 rfl ?_
          obtain ⟨q28, h⟩ := zgd_elim h
          refine z_iast h1 (zin_ok q28) dX5_fillGains_168 ?_
          obtain ⟨S29, eS29, h⟩ := zlet_elim h
          refine z_tS eS29 ?_
          exact z_mask [true, true, true, true, true, true, false, false] rfl (tX5_fillGains_b169 T k0 k1 n1 x2 x3 x4 x5 S29 h0 h1 r h K1 K2_0)
set_option maxHeartbeats 4000000 in
set_option maxRecDepth 100000 in
theorem tX5_fillGains_l37 (T : zT) (k0 : Nat) (k1 : Nat) (n1 : Nat) (x2 : Int32) (x3 : Int32) (x4 : Int32) (h0 : iX5 T k0) (h1 : zL T k1 20 n1) {g : zG} {v : Option Value} {S' : zS} : ∀ (n : Nat) (a : (Int32 × zS)) (e : zS), lpn (fun a => fX5_fillGains_l37 T k0 k1 n1 x2 x3 x4 a.1 a.2) n a = some e → (∀ e1 : zS, e = e1 → zg g 4 mX5_fillGains T 175 [some (.ref k0), some (.ref k1), some (.int x2), some (.int x3), none, none, none, none] [] T e1 v T S') → zg g 4 mX5_fillGains T 37 [some (.ref k0), some (.ref k1), some (.int x2), some (.int x3), some (.int x4), some (.int a.1), none, none] [] T a.2 v T S' := by
  intro n
  induction n with
  | zero =>
    intro a e h
    cases h
  | succ n ih =>
    intro a e h k0_
    rcases lpn_succ h with ⟨a1, ha_, hb_⟩ | ha_
    · exact tX5_fillGains_l37b T k0 k1 n1 x2 x3 x4 a.1 a.2 h0 h1 _ ha_ (fun a2 q => by cases q; exact ih a1 e hb_ k0_) (fun e1 q => by cases q)
    · exact tX5_fillGains_l37b T k0 k1 n1 x2 x3 x4 a.1 a.2 h0 h1 _ ha_ (fun a2 q => by cases q) (fun e1 q => by cases q; exact k0_ _ rfl)
set_option maxHeartbeats 4000000 in
set_option maxRecDepth 100000 in
theorem tX5_fillGains_b175 (T : zT) (k0 : Nat) (k1 : Nat) (n1 : Nat) (x2 : Int32) (x3 : Int32) (S : zS) (h0 : iX5 T k0) (h1 : zL T k1 20 n1) {g : zG} {v : Option Value} {S' : zS} (r : ((Int32 × zS) ⊕ zS)) (h : fX5_fillGains_b175 T k0 k1 n1 x2 x3 S = some r) (K1 : ∀ a : (Int32 × zS), r = .inl a → zg g 4 mX5_fillGains T 2 [some (.ref k0), some (.ref k1), some (.int x2), some (.int a.1), none, none, none, none] [] T a.2 v T S') (K2_0 : ∀ e : zS, r = .inr e → zg g 4 mX5_fillGains T 181 [none, none, none, none, none, none, none, none] [] T e v T S') : zg g 4 mX5_fillGains T 175 [some (.ref k0), some (.ref k1), some (.int x2), some (.int x3), none, none, none, none] [] T S v T S' := by
  unfold fX5_fillGains_b175 at h
  obtain ⟨u31, eu31, h⟩ := zlet_elim h
  refine z_iinc (r := u31) dX5_fillGains_175 rfl (by rw [eu31, cI_1]) rfl (by decide) rfl ?_
  refine z_goto (tgt := 2) dX5_fillGains_178 (by decide) ?_
  cases h
  exact z_mask [true, true, true, true, false, false, false, false] rfl (K1 _ rfl)
set_option maxHeartbeats 4000000 in
set_option maxRecDepth 100000 in
theorem tX5_fillGains_l2b (T : zT) (k0 : Nat) (k1 : Nat) (n1 : Nat) (x2 : Int32) (x3 : Int32) (S : zS) (h0 : iX5 T k0) (h1 : zL T k1 20 n1) {g : zG} {v : Option Value} {S' : zS} (r : (Int32 × zS) ⊕ zS) (h : fX5_fillGains_l2 T k0 k1 n1 x2 x3 S = some r) (K1 : ∀ a : (Int32 × zS), r = .inl a → zg g 4 mX5_fillGains T 2 [some (.ref k0), some (.ref k1), some (.int x2), some (.int a.1), none, none, none, none] [] T a.2 v T S') (K2_0 : ∀ e : zS, r = .inr e → zg g 4 mX5_fillGains T 181 [none, none, none, none, none, none, none, none] [] T e v T S') : zg g 4 mX5_fillGains T 2 [some (.ref k0), some (.ref k1), some (.int x2), some (.int x3), none, none, none, none] [] T S v T S' := by
  unfold fX5_fillGains_l2 at h
  refine z_iload_n dX5_fillGains_2 rfl ?_
  refine z_aload_n dX5_fillGains_3 rfl ?_
  refine z_gR (zF.x zfX5_9) h0.1 dX5_fillGains_4 ?_
  refine z_gI (zF.x zfX5_78) h0.2.1.1 dX5_fillGains_7 ?_
  refine z_icmp_ge (tgt := 181) dX5_fillGains_10 (by decide) (fun q1 => ?_) (fun q1 => ?_)
  · rw [if_pos q1] at h
    cases h
    exact z_mask [false, false, false, false, false, false, false, false] rfl (K2_0 _ rfl)
  · rw [if_neg q1] at h
    refine z_iload_n dX5_fillGains_13 rfl ?_
    refine z_bipush dX5_fillGains_14 cB_60 ?_
    refine z_icmp_ge (tgt := 181) dX5_fillGains_16 (by decide) (fun q2 => ?_) (fun q2 => ?_)
    · rw [if_pos q2] at h
      cases h
      exact z_mask [false, false, false, false, false, false, false, false] rfl (K2_0 _ rfl)
    · rw [if_neg q2] at h
      refine z_aload_n dX5_fillGains_19 rfl ?_
      refine z_iload_n dX5_fillGains_20 rfl ?_
      obtain ⟨r3, S5, hc4, h⟩ := zb_elim h
      refine z_callV (As := [.int x3]) zcX5 zkX5_114 ziX5_fillHolding zqX5_fillHolding h0.1 (tX5_fillHolding T k0 x3 S h0 (r3, S5) hc4) rfl rfl (Nat.le_of_ble_eq_true rfl) (by decide) ⟨Nat.le_refl _, Nat.le_refl _⟩ ⟨Nat.le_refl _, Nat.le_refl _⟩ dX5_fillGains_21 ?_
      refine z_aload_n dX5_fillGains_24 rfl ?_
      refine z_gR (zF.x zfX5_9) h0.1 dX5_fillGains_25 ?_
      refine z_iload_n dX5_fillGains_28 rfl ?_
      obtain ⟨r6, hc7, h⟩ := zb1_elim h
      refine z_callV (As := [.int x3]) zcX0 zkX5_118 ziX0_lostBy zqX0_lostBy h0.2.1.1 (tX0_lostBy T (zr T k0 0) x3 S5 h0.2.1 r6 hc7) rfl rfl (Nat.le_of_ble_eq_true rfl) (by decide) ⟨Nat.le_refl _, Nat.le_refl _⟩ ⟨Nat.le_refl _, Nat.le_refl _⟩ dX5_fillGains_29 ?_
      refine z_istore dX5_fillGains_32 rfl (by decide) rfl ?_
      refine z_iconst dX5_fillGains_34 cI_0 ?_
      refine z_istore dX5_fillGains_35 rfl (by decide) rfl ?_
      obtain ⟨e30, hl32, h⟩ := zb1_elim h
      obtain ⟨nf33, hl32⟩ := lp_some hl32
      refine z_mask [true, true, true, true, true, true, false, false] rfl (tX5_fillGains_l37 T k0 k1 n1 x2 x3 r6 h0 h1 nf33 (0, S5) e30 hl32 (fun e_ q => ?_))
      · cases q
        exact z_mask [true, true, true, true, false, false, false, false] rfl (tX5_fillGains_b175 T k0 k1 n1 x2 x3 e30 h0 h1 r h K1 K2_0)
set_option maxHeartbeats 4000000 in
set_option maxRecDepth 100000 in
theorem tX5_fillGains_l2 (T : zT) (k0 : Nat) (k1 : Nat) (n1 : Nat) (x2 : Int32) (h0 : iX5 T k0) (h1 : zL T k1 20 n1) {g : zG} {v : Option Value} {S' : zS} : ∀ (n : Nat) (a : (Int32 × zS)) (e : zS), lpn (fun a => fX5_fillGains_l2 T k0 k1 n1 x2 a.1 a.2) n a = some e → (∀ e1 : zS, e = e1 → zg g 4 mX5_fillGains T 181 [none, none, none, none, none, none, none, none] [] T e1 v T S') → zg g 4 mX5_fillGains T 2 [some (.ref k0), some (.ref k1), some (.int x2), some (.int a.1), none, none, none, none] [] T a.2 v T S' := by
  intro n
  induction n with
  | zero =>
    intro a e h
    cases h
  | succ n ih =>
    intro a e h k0_
    rcases lpn_succ h with ⟨a1, ha_, hb_⟩ | ha_
    · exact tX5_fillGains_l2b T k0 k1 n1 x2 a.1 a.2 h0 h1 _ ha_ (fun a2 q => by cases q; exact ih a1 e hb_ k0_) (fun e1 q => by cases q)
    · exact tX5_fillGains_l2b T k0 k1 n1 x2 a.1 a.2 h0 h1 _ ha_ (fun a2 q => by cases q) (fun e1 q => by cases q; exact k0_ _ rfl)
set_option maxHeartbeats 4000000 in
set_option maxRecDepth 100000 in
theorem tX5_fillGains_b181 (T : zT)  (S : zS)  {g : zG} (r : (Unit × zS)) (h : fX5_fillGains_b181 T  S = some r)  : zg g 4 mX5_fillGains T 181 [none, none, none, none, none, none, none, none] [] T S none T r.2 := by
  unfold fX5_fillGains_b181 at h
  cases h
  exact z_vret rfl dX5_fillGains_181
set_option maxHeartbeats 4000000 in
set_option maxRecDepth 100000 in
theorem tX5_fillGains (T : zT) (k0 : Nat) (k1 : Nat) (n1 : Nat) (x2 : Int32) (S : zS) (h0 : iX5 T k0) (h1 : zL T k1 20 n1) (r : Unit × zS) (h : fX5_fillGains T k0 k1 n1 x2 S = some r) : zGM 4 mX5_fillGains [.ref k0, .ref k1, .int x2] T S none T r.2 := by
  refine zGM_of zpnX5 rfl (Nat.le_of_ble_eq_true rfl) (fun g => ?_)
  show zg g 4 mX5_fillGains T 0 [some (.ref k0), some (.ref k1), some (.int x2), none, none, none, none, none] [] T S none T r.2
  unfold fX5_fillGains at h
  refine z_iconst dX5_fillGains_0 cI_0 ?_
  refine z_istore_n dX5_fillGains_1 rfl (by decide) rfl ?_
  obtain ⟨e34, hl35, h⟩ := zb1_elim h
  obtain ⟨nf36, hl35⟩ := lp_some hl35
  refine z_mask [true, true, true, true, false, false, false, false] rfl (tX5_fillGains_l2 T k0 k1 n1 x2 h0 h1 nf36 (0, S) e34 hl35 (fun e_ q => ?_))
  · cases q
    exact z_mask [false, false, false, false, false, false, false, false] rfl (tX5_fillGains_b181 T  e34  r h)
/-! X5_keyThing -/
noncomputable def fX5_keyThing_b85 (T : zT) (k0 : Nat) (x1 : Int32) (x2 : Int32) (x3 : Int32) (S : zS) : Option ((Int32 × Int32 × Int32 × zS) ⊕ (Int32 × zS)) :=
  zlet (x3 + 1) fun u5 => some (.inl (x1, x2, u5, S))
noncomputable def fX5_keyThing_b80 (T : zT) (k0 : Nat) (x3 : Int32) (x4 : Int32) (S : zS) : Option ((Int32 × Int32 × Int32 × zS) ⊕ (Int32 × zS)) :=
  fX5_keyThing_b85 T k0 x3 x4 x3 S
noncomputable def fX5_keyThing_b46 (T : zT) (k0 : Nat) (x1 : Int32) (x2 : Int32) (x3 : Int32) (x4 : Int32) (s0 : Int32) (S : zS) : Option ((Int32 × Int32 × Int32 × zS) ⊕ (Int32 × zS)) :=
  if s0 = 0 then if x4 = x2 then zgd (zin x3 8) (zgd (zin x1 8) (if (S.1 (zr T (zr T k0 0) 6) (x1 : Int32).toNatClampNeg) ≤ (S.1 (zr T (zr T k0 0) 6) (x3 : Int32).toNatClampNeg) then fX5_keyThing_b85 T k0 x1 x2 x3 S else fX5_keyThing_b80 T k0 x3 x4 S)) else fX5_keyThing_b85 T k0 x1 x2 x3 S else fX5_keyThing_b80 T k0 x3 x4 S
noncomputable def fX5_keyThing_b41 (T : zT) (k0 : Nat) (x1 : Int32) (x2 : Int32) (x3 : Int32) (x4 : Int32) (S : zS) : Option ((Int32 × Int32 × Int32 × zS) ⊕ (Int32 × zS)) :=
  fX5_keyThing_b46 T k0 x1 x2 x3 x4 1 S
noncomputable def fX5_keyThing_l6 (T : zT) (k0 : Nat) (x1 : Int32) (x2 : Int32) (x3 : Int32) (S : zS) : Option ((Int32 × Int32 × Int32 × zS) ⊕ (Int32 × zS)) :=
  if 8 ≤ x3 then some (.inr (x1, S)) else zb1 (fX0_has T (zr T k0 0) x3 S) fun r2 => if r2 = 0 then fX5_keyThing_b85 T k0 x1 x2 x3 S else zb (fX5_hanging T k0 x3 S) fun r6 S8 => if x1 = (-1) then fX5_keyThing_b41 T k0 x1 x2 x3 r6 S8 else if r6 ≤ x2 then fX5_keyThing_b46 T k0 x1 x2 x3 r6 0 S8 else fX5_keyThing_b41 T k0 x1 x2 x3 r6 S8
noncomputable def fX5_keyThing (T : zT) (k0 : Nat) (S : zS) : Option (Int32 × zS) :=
  zb1 (lp (fun a => fX5_keyThing_l6 T k0 a.1 a.2.1 a.2.2.1 a.2.2.2) ((-1), 0, 0, S)) fun e16 => some (e16.1, e16.2)
set_option maxHeartbeats 4000000 in
set_option maxRecDepth 100000 in
theorem tX5_keyThing_b85 (T : zT) (k0 : Nat) (x1 : Int32) (x2 : Int32) (x3 : Int32) (S : zS) (h0 : iX5 T k0) {g : zG} {v : Option Value} {S' : zS} (r : ((Int32 × Int32 × Int32 × zS) ⊕ (Int32 × zS))) (h : fX5_keyThing_b85 T k0 x1 x2 x3 S = some r) (K1 : ∀ a : (Int32 × Int32 × Int32 × zS), r = .inl a → zg g 4 mX5_keyThing T 6 [some (.ref k0), some (.int a.1), some (.int a.2.1), some (.int a.2.2.1), none, none] [] T a.2.2.2 v T S') (K2_0 : ∀ e : (Int32 × zS), r = .inr e → zg g 4 mX5_keyThing T 91 [none, some (.int e.1), none, none, none, none] [] T e.2 v T S') : zg g 4 mX5_keyThing T 85 [some (.ref k0), some (.int x1), some (.int x2), some (.int x3), none, none] [] T S v T S' := by
  unfold fX5_keyThing_b85 at h
  obtain ⟨u5, eu5, h⟩ := zlet_elim h
  refine z_iinc (r := u5) dX5_keyThing_85 rfl (by rw [eu5, cI_1]) rfl (by decide) rfl ?_
  refine z_goto (tgt := 6) dX5_keyThing_88 (by decide) ?_
  cases h
  exact z_mask [true, true, true, true, false, false] rfl (K1 _ rfl)
set_option maxHeartbeats 4000000 in
set_option maxRecDepth 100000 in
theorem tX5_keyThing_b80 (T : zT) (k0 : Nat) (x3 : Int32) (x4 : Int32) (S : zS) (h0 : iX5 T k0) {g : zG} {v : Option Value} {S' : zS} (r : ((Int32 × Int32 × Int32 × zS) ⊕ (Int32 × zS))) (h : fX5_keyThing_b80 T k0 x3 x4 S = some r) (K1 : ∀ a : (Int32 × Int32 × Int32 × zS), r = .inl a → zg g 4 mX5_keyThing T 6 [some (.ref k0), some (.int a.1), some (.int a.2.1), some (.int a.2.2.1), none, none] [] T a.2.2.2 v T S') (K2_0 : ∀ e : (Int32 × zS), r = .inr e → zg g 4 mX5_keyThing T 91 [none, some (.int e.1), none, none, none, none] [] T e.2 v T S') : zg g 4 mX5_keyThing T 80 [some (.ref k0), none, none, some (.int x3), some (.int x4), none] [] T S v T S' := by
  unfold fX5_keyThing_b80 at h
  refine z_iload_n dX5_keyThing_80 rfl ?_
  refine z_istore_n dX5_keyThing_81 rfl (by decide) rfl ?_
  refine z_iload dX5_keyThing_82 rfl ?_
  refine z_istore_n dX5_keyThing_84 rfl (by decide) rfl ?_
  exact z_mask [true, true, true, true, false, false] rfl (tX5_keyThing_b85 T k0 x3 x4 x3 S h0 r h K1 K2_0)
set_option maxHeartbeats 4000000 in
set_option maxRecDepth 100000 in
theorem tX5_keyThing_b46 (T : zT) (k0 : Nat) (x1 : Int32) (x2 : Int32) (x3 : Int32) (x4 : Int32) (s0 : Int32) (S : zS) (h0 : iX5 T k0) {g : zG} {v : Option Value} {S' : zS} (r : ((Int32 × Int32 × Int32 × zS) ⊕ (Int32 × zS))) (h : fX5_keyThing_b46 T k0 x1 x2 x3 x4 s0 S = some r) (K1 : ∀ a : (Int32 × Int32 × Int32 × zS), r = .inl a → zg g 4 mX5_keyThing T 6 [some (.ref k0), some (.int a.1), some (.int a.2.1), some (.int a.2.2.1), none, none] [] T a.2.2.2 v T S') (K2_0 : ∀ e : (Int32 × zS), r = .inr e → zg g 4 mX5_keyThing T 91 [none, some (.int e.1), none, none, none, none] [] T e.2 v T S') : zg g 4 mX5_keyThing T 46 [some (.ref k0), some (.int x1), some (.int x2), some (.int x3), some (.int x4), none] [.int s0] T S v T S' := by
  unfold fX5_keyThing_b46 at h
  refine z_istore dX5_keyThing_46 rfl (by decide) rfl ?_
  refine z_iload dX5_keyThing_48 rfl ?_
  refine z_if_ne (tgt := 80) dX5_keyThing_50 (by decide) (fun q10 => ?_) (fun q10 => ?_)
  · rw [if_neg q10] at h
    exact z_mask [true, false, false, true, true, false] rfl (tX5_keyThing_b80 T k0 x3 x4 S h0 r h K1 K2_0)
  · rw [if_pos q10] at h
    refine z_iload dX5_keyThing_53 rfl ?_
    refine z_iload_n dX5_keyThing_55 rfl ?_
    refine z_icmp_ne (tgt := 85) dX5_keyThing_56 (by decide) (fun q11 => ?_) (fun q11 => ?_)
    · rw [if_neg q11] at h
      exact z_mask [true, true, true, true, false, false] rfl (tX5_keyThing_b85 T k0 x1 x2 x3 S h0 r h K1 K2_0)
    · rw [if_pos q11] at h
      refine z_aload_n dX5_keyThing_59 rfl ?_
      refine z_gR (zF.x zfX5_9) h0.1 dX5_keyThing_60 ?_
      refine z_gA zfX5_196 h0.2.1.1 dX5_keyThing_63 ?_
      refine z_iload_n dX5_keyThing_66 rfl ?_
      obtain ⟨q12, h⟩ := zgd_elim h
      refine z_iald h0.2.1.2.1 (zin_ok q12) dX5_keyThing_67 ?_
      refine z_aload_n dX5_keyThing_68 rfl ?_
      refine z_gR (zF.x zfX5_9) h0.1 dX5_keyThing_69 ?_
      refine z_gA zfX5_196 h0.2.1.1 dX5_keyThing_72 ?_
      refine z_iload_n dX5_keyThing_75 rfl ?_
      obtain ⟨q13, h⟩ := zgd_elim h
      refine z_iald h0.2.1.2.1 (zin_ok q13) dX5_keyThing_76 ?_
      refine z_icmp_ge (tgt := 85) dX5_keyThing_77 (by decide) (fun q14 => ?_) (fun q14 => ?_)
      · rw [if_pos q14] at h
        exact z_mask [true, true, true, true, false, false] rfl (tX5_keyThing_b85 T k0 x1 x2 x3 S h0 r h K1 K2_0)
      · rw [if_neg q14] at h
        exact z_mask [true, false, false, true, true, false] rfl (tX5_keyThing_b80 T k0 x3 x4 S h0 r h K1 K2_0)
set_option maxHeartbeats 4000000 in
set_option maxRecDepth 100000 in
theorem tX5_keyThing_b41 (T : zT) (k0 : Nat) (x1 : Int32) (x2 : Int32) (x3 : Int32) (x4 : Int32) (S : zS) (h0 : iX5 T k0) {g : zG} {v : Option Value} {S' : zS} (r : ((Int32 × Int32 × Int32 × zS) ⊕ (Int32 × zS))) (h : fX5_keyThing_b41 T k0 x1 x2 x3 x4 S = some r) (K1 : ∀ a : (Int32 × Int32 × Int32 × zS), r = .inl a → zg g 4 mX5_keyThing T 6 [some (.ref k0), some (.int a.1), some (.int a.2.1), some (.int a.2.2.1), none, none] [] T a.2.2.2 v T S') (K2_0 : ∀ e : (Int32 × zS), r = .inr e → zg g 4 mX5_keyThing T 91 [none, some (.int e.1), none, none, none, none] [] T e.2 v T S') : zg g 4 mX5_keyThing T 41 [some (.ref k0), some (.int x1), some (.int x2), some (.int x3), some (.int x4), none] [] T S v T S' := by
  unfold fX5_keyThing_b41 at h
  refine z_iconst dX5_keyThing_41 cI_1 ?_
  refine z_goto (tgt := 46) dX5_keyThing_42 (by decide) ?_
  exact z_mask [true, true, true, true, true, false] rfl (tX5_keyThing_b46 T k0 x1 x2 x3 x4 1 S h0 r h K1 K2_0)
set_option maxHeartbeats 4000000 in
set_option maxRecDepth 100000 in
theorem tX5_keyThing_l6b (T : zT) (k0 : Nat) (x1 : Int32) (x2 : Int32) (x3 : Int32) (S : zS) (h0 : iX5 T k0) {g : zG} {v : Option Value} {S' : zS} (r : (Int32 × Int32 × Int32 × zS) ⊕ (Int32 × zS)) (h : fX5_keyThing_l6 T k0 x1 x2 x3 S = some r) (K1 : ∀ a : (Int32 × Int32 × Int32 × zS), r = .inl a → zg g 4 mX5_keyThing T 6 [some (.ref k0), some (.int a.1), some (.int a.2.1), some (.int a.2.2.1), none, none] [] T a.2.2.2 v T S') (K2_0 : ∀ e : (Int32 × zS), r = .inr e → zg g 4 mX5_keyThing T 91 [none, some (.int e.1), none, none, none, none] [] T e.2 v T S') : zg g 4 mX5_keyThing T 6 [some (.ref k0), some (.int x1), some (.int x2), some (.int x3), none, none] [] T S v T S' := by
  unfold fX5_keyThing_l6 at h
  refine z_iload_n dX5_keyThing_6 rfl ?_
  refine z_bipush dX5_keyThing_7 cB_8 ?_
  refine z_icmp_ge (tgt := 91) dX5_keyThing_9 (by decide) (fun q1 => ?_) (fun q1 => ?_)
  · rw [if_pos q1] at h
    cases h
    exact z_mask [false, true, false, false, false, false] rfl (K2_0 _ rfl)
  · rw [if_neg q1] at h
    refine z_aload_n dX5_keyThing_12 rfl ?_
    refine z_gR (zF.x zfX5_9) h0.1 dX5_keyThing_13 ?_
    refine z_iload_n dX5_keyThing_16 rfl ?_
    obtain ⟨r2, hc3, h⟩ := zb1_elim h
    refine z_callV (As := [.int x3]) zcX0 zkX5_190 ziX0_has zqX0_has h0.2.1.1 (tX0_has T (zr T k0 0) x3 S h0.2.1 r2 hc3) rfl rfl (Nat.le_of_ble_eq_true rfl) (by decide) ⟨Nat.le_refl _, Nat.le_refl _⟩ ⟨Nat.le_refl _, Nat.le_refl _⟩ dX5_keyThing_17 ?_
    refine z_if_eq (tgt := 85) dX5_keyThing_20 (by decide) (fun q4 => ?_) (fun q4 => ?_)
    · rw [if_pos q4] at h
      exact z_mask [true, true, true, true, false, false] rfl (tX5_keyThing_b85 T k0 x1 x2 x3 S h0 r h K1 K2_0)
    · rw [if_neg q4] at h
      refine z_aload_n dX5_keyThing_23 rfl ?_
      refine z_iload_n dX5_keyThing_24 rfl ?_
      obtain ⟨r6, S8, hc7, h⟩ := zb_elim h
      refine z_callV (As := [.int x3]) zcX5 zkX5_193 ziX5_hanging zqX5_hanging h0.1 (tX5_hanging T k0 x3 S h0 (r6, S8) hc7) rfl rfl (Nat.le_of_ble_eq_true rfl) (by decide) ⟨Nat.le_refl _, Nat.le_refl _⟩ ⟨Nat.le_refl _, Nat.le_refl _⟩ dX5_keyThing_25 ?_
      refine z_istore dX5_keyThing_28 rfl (by decide) rfl ?_
      refine z_iload_n dX5_keyThing_30 rfl ?_
      refine z_iconst dX5_keyThing_31 cI_m1 ?_
      refine z_icmp_eq (tgt := 41) dX5_keyThing_32 (by decide) (fun q9 => ?_) (fun q9 => ?_)
      · rw [if_pos q9] at h
        exact z_mask [true, true, true, true, true, false] rfl (tX5_keyThing_b41 T k0 x1 x2 x3 r6 S8 h0 r h K1 K2_0)
      · rw [if_neg q9] at h
        refine z_iload dX5_keyThing_35 rfl ?_
        refine z_iload_n dX5_keyThing_37 rfl ?_
        refine z_icmp_le (tgt := 45) dX5_keyThing_38 (by decide) (fun q15 => ?_) (fun q15 => ?_)
        · rw [if_pos q15] at h
          refine z_iconst dX5_keyThing_45 cI_0 ?_
          exact z_mask [true, true, true, true, true, false] rfl (tX5_keyThing_b46 T k0 x1 x2 x3 r6 0 S8 h0 r h K1 K2_0)
        · rw [if_neg q15] at h
          exact z_mask [true, true, true, true, true, false] rfl (tX5_keyThing_b41 T k0 x1 x2 x3 r6 S8 h0 r h K1 K2_0)
set_option maxHeartbeats 4000000 in
set_option maxRecDepth 100000 in
theorem tX5_keyThing_l6 (T : zT) (k0 : Nat) (h0 : iX5 T k0) {g : zG} {v : Option Value} {S' : zS} : ∀ (n : Nat) (a : (Int32 × Int32 × Int32 × zS)) (e : (Int32 × zS)), lpn (fun a => fX5_keyThing_l6 T k0 a.1 a.2.1 a.2.2.1 a.2.2.2) n a = some e → (∀ e1 : (Int32 × zS), e = e1 → zg g 4 mX5_keyThing T 91 [none, some (.int e1.1), none, none, none, none] [] T e1.2 v T S') → zg g 4 mX5_keyThing T 6 [some (.ref k0), some (.int a.1), some (.int a.2.1), some (.int a.2.2.1), none, none] [] T a.2.2.2 v T S' := by
  intro n
  induction n with
  | zero =>
    intro a e h
    cases h
  | succ n ih =>
    intro a e h k0_
    rcases lpn_succ h with ⟨a1, ha_, hb_⟩ | ha_
    · exact tX5_keyThing_l6b T k0 a.1 a.2.1 a.2.2.1 a.2.2.2 h0 _ ha_ (fun a2 q => by cases q; exact ih a1 e hb_ k0_) (fun e1 q => by cases q)
    · exact tX5_keyThing_l6b T k0 a.1 a.2.1 a.2.2.1 a.2.2.2 h0 _ ha_ (fun a2 q => by cases q) (fun e1 q => by cases q; exact k0_ _ rfl)
set_option maxHeartbeats 4000000 in
set_option maxRecDepth 100000 in
theorem tX5_keyThing (T : zT) (k0 : Nat) (S : zS) (h0 : iX5 T k0) (r : Int32 × zS) (h : fX5_keyThing T k0 S = some r) : zGM 4 mX5_keyThing [.ref k0] T S (some (.int r.1)) T r.2 := by
  refine zGM_of zpnX5 rfl (Nat.le_of_ble_eq_true rfl) (fun g => ?_)
  show zg g 4 mX5_keyThing T 0 [some (.ref k0), none, none, none, none, none] [] T S (some (.int r.1)) T r.2
  unfold fX5_keyThing at h
  refine z_iconst dX5_keyThing_0 cI_m1 ?_
  refine z_istore_n dX5_keyThing_1 rfl (by decide) rfl ?_
  refine z_iconst dX5_keyThing_2 cI_0 ?_
  refine z_istore_n dX5_keyThing_3 rfl (by decide) rfl ?_
  refine z_iconst dX5_keyThing_4 cI_0 ?_
  refine z_istore_n dX5_keyThing_5 rfl (by decide) rfl ?_
  obtain ⟨e16, hl17, h⟩ := zb1_elim h
  obtain ⟨nf18, hl17⟩ := lp_some hl17
  refine z_mask [true, true, true, true, false, false] rfl (tX5_keyThing_l6 T k0 h0 nf18 ((-1), 0, 0, S) e16 hl17 (fun e_ q => ?_))
  · cases q
    refine z_iload_n dX5_keyThing_91 rfl ?_
    cases h
    exact z_iret rfl dX5_keyThing_92
/-! X5_borrowingWeek -/
noncomputable def fX5_borrowingWeek_b17 (T : zT) (s0 : Int32) (S : zS) : Option (Int32 × zS) :=
  some (s0, S)
noncomputable def fX5_borrowingWeek (T : zT) (k0 : Nat) (S : zS) : Option (Int32 × zS) :=
  zb (fX5_bestBorrowing T k0 0 S) fun r1 S3 => if r1 ≤ (S3.1 k0 3) then fX5_borrowingWeek_b17 T (-1) S3 else fX5_borrowingWeek_b17 T 0 S3
set_option maxHeartbeats 4000000 in
set_option maxRecDepth 100000 in
theorem tX5_borrowingWeek_b17 (T : zT) (s0 : Int32) (S : zS)  {g : zG} (r : (Int32 × zS)) (h : fX5_borrowingWeek_b17 T s0 S = some r)  : zg g 4 mX5_borrowingWeek T 17 [none] [.int s0] T S (some (.int r.1)) T r.2 := by
  unfold fX5_borrowingWeek_b17 at h
  cases h
  exact z_iret rfl dX5_borrowingWeek_17
set_option maxHeartbeats 4000000 in
set_option maxRecDepth 100000 in
theorem tX5_borrowingWeek (T : zT) (k0 : Nat) (S : zS) (h0 : iX5 T k0) (r : Int32 × zS) (h : fX5_borrowingWeek T k0 S = some r) : zGM 4 mX5_borrowingWeek [.ref k0] T S (some (.int r.1)) T r.2 := by
  refine zGM_of zpnX5 rfl (Nat.le_of_ble_eq_true rfl) (fun g => ?_)
  show zg g 4 mX5_borrowingWeek T 0 [some (.ref k0)] [] T S (some (.int r.1)) T r.2
  unfold fX5_borrowingWeek at h
  refine z_aload_n dX5_borrowingWeek_0 rfl ?_
  refine z_iconst dX5_borrowingWeek_1 cI_0 ?_
  obtain ⟨r1, S3, hc2, h⟩ := zb_elim h
  refine z_callV (As := [.int 0]) zcX5 zkX5_211 ziX5_bestBorrowing zqX5_bestBorrowing h0.1 (tX5_bestBorrowing T k0 0 S h0 (r1, S3) hc2) rfl rfl (Nat.le_of_ble_eq_true rfl) (by decide) ⟨Nat.le_refl _, Nat.le_refl _⟩ ⟨Nat.le_refl _, Nat.le_refl _⟩ dX5_borrowingWeek_2 ?_
  refine z_aload_n dX5_borrowingWeek_5 rfl ?_
  refine z_gI (zF.x zfX5_98) h0.1 dX5_borrowingWeek_6 ?_
  refine z_icmp_le (tgt := 16) dX5_borrowingWeek_9 (by decide) (fun q4 => ?_) (fun q4 => ?_)
  · rw [if_pos q4] at h
    refine z_iconst dX5_borrowingWeek_16 cI_m1 ?_
    exact z_mask [false] rfl (tX5_borrowingWeek_b17 T (-1) S3  r h)
  · rw [if_neg q4] at h
    refine z_iconst dX5_borrowingWeek_12 cI_0 ?_
    refine z_goto (tgt := 17) dX5_borrowingWeek_13 (by decide) ?_
    exact z_mask [false] rfl (tX5_borrowingWeek_b17 T 0 S3  r h)
/-! X5_bestSelling -/
noncomputable def fX5_bestSelling_l31 (T : zT) (k0 : Nat) (x1 : Int32) (x2 : Int32) (x3 : Int32) (S : zS) : Option ((Int32 × zS) ⊕ zS) :=
  if x2 ≤ x3 then some (.inr S) else zb (fX5_pass T k0 (zr T k0 11) 256 x3 (1 <<< (x1 &&& 31)) (zr T k0 9) 15360 S) fun _ S10 => zlet (x3 + 1) fun u11 => some (.inl (u11, S10))
noncomputable def fX5_bestSelling (T : zT) (k0 : Nat) (x1 : Int32) (x2 : Int32) (S : zS) : Option (Int32 × zS) :=
  zb1 (fX0_isLost T (zr T k0 0) x1 x2 S) fun r1 => if r1 = 0 then zb (fX5_start T (zr T k0 11) 256 0 (S.1 (zr T k0 0) 2) S) fun _ S6 => zb1 (lp (fun a => fX5_bestSelling_l31 T k0 x1 x2 a.1 a.2) (0, S6)) fun e12 => zb (fX5_bestSellingFromLine T k0 x1 x2 e12) fun r13 S15 => some (r13, S15) else some ((-1), S)
set_option maxHeartbeats 4000000 in
set_option maxRecDepth 100000 in
theorem tX5_bestSelling_l31b (T : zT) (k0 : Nat) (x1 : Int32) (x2 : Int32) (x3 : Int32) (S : zS) (h0 : iX5 T k0) {g : zG} {v : Option Value} {S' : zS} (r : (Int32 × zS) ⊕ zS) (h : fX5_bestSelling_l31 T k0 x1 x2 x3 S = some r) (K1 : ∀ a : (Int32 × zS), r = .inl a → zg g 4 mX5_bestSelling T 31 [some (.ref k0), some (.int x1), some (.int x2), some (.int a.1)] [] T a.2 v T S') (K2_0 : ∀ e : zS, r = .inr e → zg g 4 mX5_bestSelling T 58 [some (.ref k0), some (.int x1), some (.int x2), none] [] T e v T S') : zg g 4 mX5_bestSelling T 31 [some (.ref k0), some (.int x1), some (.int x2), some (.int x3)] [] T S v T S' := by
  unfold fX5_bestSelling_l31 at h
  refine z_iload_n dX5_bestSelling_31 rfl ?_
  refine z_iload_n dX5_bestSelling_32 rfl ?_
  refine z_icmp_ge (tgt := 58) dX5_bestSelling_33 (by decide) (fun q7 => ?_) (fun q7 => ?_)
  · rw [if_pos q7] at h
    cases h
    exact z_mask [true, true, true, false] rfl (K2_0 _ rfl)
  · rw [if_neg q7] at h
    refine z_aload_n dX5_bestSelling_36 rfl ?_
    refine z_aload_n dX5_bestSelling_37 rfl ?_
    refine z_gA (zF.x zfX5_32) h0.1 dX5_bestSelling_38 ?_
    refine z_iload_n dX5_bestSelling_41 rfl ?_
    refine z_iconst dX5_bestSelling_42 cI_1 ?_
    refine z_iload_n dX5_bestSelling_43 rfl ?_
    refine z_ishl dX5_bestSelling_44 rfl ?_
    refine z_aload_n dX5_bestSelling_45 rfl ?_
    refine z_gA (zF.x zfX5_26) h0.1 dX5_bestSelling_46 ?_
    obtain ⟨r8, S10, hc9, h⟩ := zb_elim h
    refine z_callV (As := [.ref (zr T k0 11), .int x3, .int (1 <<< (x1 &&& 31)), .ref (zr T k0 9)]) zcX5 zkX5_81 ziX5_pass zqX5_pass h0.1 (tX5_pass T k0 (zr T k0 11) 256 x3 (1 <<< (x1 &&& 31)) (zr T k0 9) 15360 S h0 h0.2.2.2.2.2.2.2.1 h0.2.2.2.2.2.1 (r8, S10) hc9) rfl rfl (Nat.le_of_ble_eq_true rfl) (by decide) ⟨Nat.le_refl _, Nat.le_refl _⟩ ⟨Nat.le_refl _, Nat.le_refl _⟩ dX5_bestSelling_49 ?_
    obtain ⟨u11, eu11, h⟩ := zlet_elim h
    refine z_iinc (r := u11) dX5_bestSelling_52 rfl (by rw [eu11, cI_1]) rfl (by decide) rfl ?_
    refine z_goto (tgt := 31) dX5_bestSelling_55 (by decide) ?_
    cases h
    exact z_mask [true, true, true, true] rfl (K1 _ rfl)
set_option maxHeartbeats 4000000 in
set_option maxRecDepth 100000 in
theorem tX5_bestSelling_l31 (T : zT) (k0 : Nat) (x1 : Int32) (x2 : Int32) (h0 : iX5 T k0) {g : zG} {v : Option Value} {S' : zS} : ∀ (n : Nat) (a : (Int32 × zS)) (e : zS), lpn (fun a => fX5_bestSelling_l31 T k0 x1 x2 a.1 a.2) n a = some e → (∀ e1 : zS, e = e1 → zg g 4 mX5_bestSelling T 58 [some (.ref k0), some (.int x1), some (.int x2), none] [] T e1 v T S') → zg g 4 mX5_bestSelling T 31 [some (.ref k0), some (.int x1), some (.int x2), some (.int a.1)] [] T a.2 v T S' := by
  intro n
  induction n with
  | zero =>
    intro a e h
    cases h
  | succ n ih =>
    intro a e h k0_
    rcases lpn_succ h with ⟨a1, ha_, hb_⟩ | ha_
    · exact tX5_bestSelling_l31b T k0 x1 x2 a.1 a.2 h0 _ ha_ (fun a2 q => by cases q; exact ih a1 e hb_ k0_) (fun e1 q => by cases q)
    · exact tX5_bestSelling_l31b T k0 x1 x2 a.1 a.2 h0 _ ha_ (fun a2 q => by cases q) (fun e1 q => by cases q; exact k0_ _ rfl)
set_option maxHeartbeats 4000000 in
set_option maxRecDepth 100000 in
theorem tX5_bestSelling (T : zT) (k0 : Nat) (x1 : Int32) (x2 : Int32) (S : zS) (h0 : iX5 T k0) (r : Int32 × zS) (h : fX5_bestSelling T k0 x1 x2 S = some r) : zGM 4 mX5_bestSelling [.ref k0, .int x1, .int x2] T S (some (.int r.1)) T r.2 := by
  refine zGM_of zpnX5 rfl (Nat.le_of_ble_eq_true rfl) (fun g => ?_)
  show zg g 4 mX5_bestSelling T 0 [some (.ref k0), some (.int x1), some (.int x2), none] [] T S (some (.int r.1)) T r.2
  unfold fX5_bestSelling at h
  refine z_aload_n dX5_bestSelling_0 rfl ?_
  refine z_gR (zF.x zfX5_9) h0.1 dX5_bestSelling_1 ?_
  refine z_iload_n dX5_bestSelling_4 rfl ?_
  refine z_iload_n dX5_bestSelling_5 rfl ?_
  obtain ⟨r1, hc2, h⟩ := zb1_elim h
  refine z_callV (As := [.int x1, .int x2]) zcX0 zkX5_182 ziX0_isLost zqX0_isLost h0.2.1.1 (tX0_isLost T (zr T k0 0) x1 x2 S h0.2.1 r1 hc2) rfl rfl (Nat.le_of_ble_eq_true rfl) (by decide) ⟨Nat.le_refl _, Nat.le_refl _⟩ ⟨Nat.le_refl _, Nat.le_refl _⟩ dX5_bestSelling_6 ?_
  refine z_if_eq (tgt := 14) dX5_bestSelling_9 (by decide) (fun q3 => ?_) (fun q3 => ?_)
  · rw [if_pos q3] at h
    refine z_aload_n dX5_bestSelling_14 rfl ?_
    refine z_gA (zF.x zfX5_32) h0.1 dX5_bestSelling_15 ?_
    refine z_iconst dX5_bestSelling_18 cI_0 ?_
    refine z_aload_n dX5_bestSelling_19 rfl ?_
    refine z_gR (zF.x zfX5_9) h0.1 dX5_bestSelling_20 ?_
    refine z_gI (zF.x zfX5_64) h0.2.1.1 dX5_bestSelling_23 ?_
    obtain ⟨r4, S6, hc5, h⟩ := zb_elim h
    refine z_callS (As := [.ref (zr T k0 11), .int 0, .int (S.1 (zr T k0 0) 2)]) zkX5_68 zsX5_start (tX5_start T (zr T k0 11) 256 0 (S.1 (zr T k0 0) 2) S h0.2.2.2.2.2.2.2.1 (r4, S6) hc5) rfl rfl (Nat.le_of_ble_eq_true rfl) (by decide) ⟨Nat.le_refl _, Nat.le_refl _⟩ ⟨Nat.le_refl _, Nat.le_refl _⟩ dX5_bestSelling_26 ?_
    refine z_iconst dX5_bestSelling_29 cI_0 ?_
    refine z_istore_n dX5_bestSelling_30 rfl (by decide) rfl ?_
    obtain ⟨e12, hl16, h⟩ := zb1_elim h
    obtain ⟨nf17, hl16⟩ := lp_some hl16
    refine z_mask [true, true, true, true] rfl (tX5_bestSelling_l31 T k0 x1 x2 h0 nf17 (0, S6) e12 hl16 (fun e_ q => ?_))
    · cases q
      refine z_aload_n dX5_bestSelling_58 rfl ?_
      refine z_iload_n dX5_bestSelling_59 rfl ?_
      refine z_iload_n dX5_bestSelling_60 rfl ?_
      obtain ⟨r13, S15, hc14, h⟩ := zb_elim h
      refine z_callV (As := [.int x1, .int x2]) zcX5 zkX5_214 ziX5_bestSellingFromLine zqX5_bestSellingFromLine h0.1 (tX5_bestSellingFromLine T k0 x1 x2 e12 h0 (r13, S15) hc14) rfl rfl (Nat.le_of_ble_eq_true rfl) (by decide) ⟨Nat.le_refl _, Nat.le_refl _⟩ ⟨Nat.le_refl _, Nat.le_refl _⟩ dX5_bestSelling_61 ?_
      cases h
      exact z_iret rfl dX5_bestSelling_64
  · rw [if_neg q3] at h
    refine z_iconst dX5_bestSelling_12 cI_m1 ?_
    cases h
    exact z_iret rfl dX5_bestSelling_13
/-! X5_sellingWeek -/
noncomputable def fX5_sellingWeek_b71 (T : zT) (k0 : Nat) (x1 : Int32) (x2 : Int32) (x3 : Int32) (x4 : Int32) (S : zS) : Option ((Int32 × Int32 × Int32 × zS) ⊕ (Int32 × zS)) :=
  zb (fX5_pass T k0 (zr T k0 11) 256 x4 (1 <<< (x1 &&& 31)) (zr T k0 9) 15360 S) fun _ S15 => zlet (x4 + 1) fun u16 => some (.inl (x2, x3, u16, S15))
noncomputable def fX5_sellingWeek_l25 (T : zT) (k0 : Nat) (x1 : Int32) (x2 : Int32) (x3 : Int32) (x4 : Int32) (S : zS) : Option ((Int32 × Int32 × Int32 × zS) ⊕ (Int32 × zS)) :=
  if (S.1 (zr T k0 0) 1) ≤ x4 then some (.inr (x2, S)) else zb1 (fX0_isLost T (zr T k0 0) x1 x4 S) fun r6 => if r6 = 0 then zb (fX5_bestSellingFromLine T k0 x1 x4 S) fun r9 S11 => if r9 ≤ x3 then fX5_sellingWeek_b71 T k0 x1 x2 x3 x4 S11 else fX5_sellingWeek_b71 T k0 x1 x4 r9 x4 S11 else some (.inr (x2, S))
noncomputable def fX5_sellingWeek_b94 (T : zT) (x2 : Int32) (S : zS) : Option (Int32 × zS) :=
  some (x2, S)
noncomputable def fX5_sellingWeek (T : zT) (k0 : Nat) (x1 : Int32) (S : zS) : Option (Int32 × zS) :=
  zlet (S.1 k0 3) fun u1 => zb (fX5_start T (zr T k0 11) 256 0 (S.1 (zr T k0 0) 2) S) fun _ S4 => zb1 (lp (fun a => fX5_sellingWeek_l25 T k0 x1 a.1 a.2.1 a.2.2.1 a.2.2.2) ((-1), u1, 0, S4)) fun e17 => fX5_sellingWeek_b94 T e17.1 e17.2
set_option maxHeartbeats 4000000 in
set_option maxRecDepth 100000 in
theorem tX5_sellingWeek_b71 (T : zT) (k0 : Nat) (x1 : Int32) (x2 : Int32) (x3 : Int32) (x4 : Int32) (S : zS) (h0 : iX5 T k0) {g : zG} {v : Option Value} {S' : zS} (r : ((Int32 × Int32 × Int32 × zS) ⊕ (Int32 × zS))) (h : fX5_sellingWeek_b71 T k0 x1 x2 x3 x4 S = some r) (K1 : ∀ a : (Int32 × Int32 × Int32 × zS), r = .inl a → zg g 4 mX5_sellingWeek T 25 [some (.ref k0), some (.int x1), some (.int a.1), some (.int a.2.1), some (.int a.2.2.1), none] [] T a.2.2.2 v T S') (K2_0 : ∀ e : (Int32 × zS), r = .inr e → zg g 4 mX5_sellingWeek T 94 [none, none, some (.int e.1), none, none, none] [] T e.2 v T S') : zg g 4 mX5_sellingWeek T 71 [some (.ref k0), some (.int x1), some (.int x2), some (.int x3), some (.int x4), none] [] T S v T S' := by
  unfold fX5_sellingWeek_b71 at h
  refine z_aload_n dX5_sellingWeek_71 rfl ?_
  refine z_aload_n dX5_sellingWeek_72 rfl ?_
  refine z_gA (zF.x zfX5_32) h0.1 dX5_sellingWeek_73 ?_
  refine z_iload dX5_sellingWeek_76 rfl ?_
  refine z_iconst dX5_sellingWeek_78 cI_1 ?_
  refine z_iload_n dX5_sellingWeek_79 rfl ?_
  refine z_ishl dX5_sellingWeek_80 rfl ?_
  refine z_aload_n dX5_sellingWeek_81 rfl ?_
  refine z_gA (zF.x zfX5_26) h0.1 dX5_sellingWeek_82 ?_
  obtain ⟨r13, S15, hc14, h⟩ := zb_elim h
  refine z_callV (As := [.ref (zr T k0 11), .int x4, .int (1 <<< (x1 &&& 31)), .ref (zr T k0 9)]) zcX5 zkX5_81 ziX5_pass zqX5_pass h0.1 (tX5_pass T k0 (zr T k0 11) 256 x4 (1 <<< (x1 &&& 31)) (zr T k0 9) 15360 S h0 h0.2.2.2.2.2.2.2.1 h0.2.2.2.2.2.1 (r13, S15) hc14) rfl rfl (Nat.le_of_ble_eq_true rfl) (by decide) ⟨Nat.le_refl _, Nat.le_refl _⟩ ⟨Nat.le_refl _, Nat.le_refl _⟩ dX5_sellingWeek_85 ?_
  obtain ⟨u16, eu16, h⟩ := zlet_elim h
  refine z_iinc (r := u16) dX5_sellingWeek_88 rfl (by rw [eu16, cI_1]) rfl (by decide) rfl ?_
  refine z_goto (tgt := 25) dX5_sellingWeek_91 (by decide) ?_
  cases h
  exact z_mask [true, true, true, true, true, false] rfl (K1 _ rfl)
set_option maxHeartbeats 4000000 in
set_option maxRecDepth 100000 in
theorem tX5_sellingWeek_l25b (T : zT) (k0 : Nat) (x1 : Int32) (x2 : Int32) (x3 : Int32) (x4 : Int32) (S : zS) (h0 : iX5 T k0) {g : zG} {v : Option Value} {S' : zS} (r : (Int32 × Int32 × Int32 × zS) ⊕ (Int32 × zS)) (h : fX5_sellingWeek_l25 T k0 x1 x2 x3 x4 S = some r) (K1 : ∀ a : (Int32 × Int32 × Int32 × zS), r = .inl a → zg g 4 mX5_sellingWeek T 25 [some (.ref k0), some (.int x1), some (.int a.1), some (.int a.2.1), some (.int a.2.2.1), none] [] T a.2.2.2 v T S') (K2_0 : ∀ e : (Int32 × zS), r = .inr e → zg g 4 mX5_sellingWeek T 94 [none, none, some (.int e.1), none, none, none] [] T e.2 v T S') : zg g 4 mX5_sellingWeek T 25 [some (.ref k0), some (.int x1), some (.int x2), some (.int x3), some (.int x4), none] [] T S v T S' := by
  unfold fX5_sellingWeek_l25 at h
  refine z_iload dX5_sellingWeek_25 rfl ?_
  refine z_aload_n dX5_sellingWeek_27 rfl ?_
  refine z_gR (zF.x zfX5_9) h0.1 dX5_sellingWeek_28 ?_
  refine z_gI (zF.x zfX5_78) h0.2.1.1 dX5_sellingWeek_31 ?_
  refine z_icmp_ge (tgt := 94) dX5_sellingWeek_34 (by decide) (fun q5 => ?_) (fun q5 => ?_)
  · rw [if_pos q5] at h
    cases h
    exact z_mask [false, false, true, false, false, false] rfl (K2_0 _ rfl)
  · rw [if_neg q5] at h
    refine z_aload_n dX5_sellingWeek_37 rfl ?_
    refine z_gR (zF.x zfX5_9) h0.1 dX5_sellingWeek_38 ?_
    refine z_iload_n dX5_sellingWeek_41 rfl ?_
    refine z_iload dX5_sellingWeek_42 rfl ?_
    obtain ⟨r6, hc7, h⟩ := zb1_elim h
    refine z_callV (As := [.int x1, .int x4]) zcX0 zkX5_182 ziX0_isLost zqX0_isLost h0.2.1.1 (tX0_isLost T (zr T k0 0) x1 x4 S h0.2.1 r6 hc7) rfl rfl (Nat.le_of_ble_eq_true rfl) (by decide) ⟨Nat.le_refl _, Nat.le_refl _⟩ ⟨Nat.le_refl _, Nat.le_refl _⟩ dX5_sellingWeek_44 ?_
    refine z_if_ne (tgt := 94) dX5_sellingWeek_47 (by decide) (fun q8 => ?_) (fun q8 => ?_)
    · rw [if_neg q8] at h
      cases h
      exact z_mask [false, false, true, false, false, false] rfl (K2_0 _ rfl)
    · rw [if_pos q8] at h
      refine z_aload_n dX5_sellingWeek_50 rfl ?_
      refine z_iload_n dX5_sellingWeek_51 rfl ?_
      refine z_iload dX5_sellingWeek_52 rfl ?_
      obtain ⟨r9, S11, hc10, h⟩ := zb_elim h
      refine z_callV (As := [.int x1, .int x4]) zcX5 zkX5_214 ziX5_bestSellingFromLine zqX5_bestSellingFromLine h0.1 (tX5_bestSellingFromLine T k0 x1 x4 S h0 (r9, S11) hc10) rfl rfl (Nat.le_of_ble_eq_true rfl) (by decide) ⟨Nat.le_refl _, Nat.le_refl _⟩ ⟨Nat.le_refl _, Nat.le_refl _⟩ dX5_sellingWeek_54 ?_
      refine z_istore dX5_sellingWeek_57 rfl (by decide) rfl ?_
      refine z_iload dX5_sellingWeek_59 rfl ?_
      refine z_iload_n dX5_sellingWeek_61 rfl ?_
      refine z_icmp_le (tgt := 71) dX5_sellingWeek_62 (by decide) (fun q12 => ?_) (fun q12 => ?_)
      · rw [if_pos q12] at h
        exact z_mask [true, true, true, true, true, false] rfl (tX5_sellingWeek_b71 T k0 x1 x2 x3 x4 S11 h0 r h K1 K2_0)
      · rw [if_neg q12] at h
        refine z_iload dX5_sellingWeek_65 rfl ?_
        refine z_istore_n dX5_sellingWeek_67 rfl (by decide) rfl ?_
        refine z_iload dX5_sellingWeek_68 rfl ?_
        refine z_istore_n dX5_sellingWeek_70 rfl (by decide) rfl ?_
        exact z_mask [true, true, true, true, true, false] rfl (tX5_sellingWeek_b71 T k0 x1 x4 r9 x4 S11 h0 r h K1 K2_0)
set_option maxHeartbeats 4000000 in
set_option maxRecDepth 100000 in
theorem tX5_sellingWeek_l25 (T : zT) (k0 : Nat) (x1 : Int32) (h0 : iX5 T k0) {g : zG} {v : Option Value} {S' : zS} : ∀ (n : Nat) (a : (Int32 × Int32 × Int32 × zS)) (e : (Int32 × zS)), lpn (fun a => fX5_sellingWeek_l25 T k0 x1 a.1 a.2.1 a.2.2.1 a.2.2.2) n a = some e → (∀ e1 : (Int32 × zS), e = e1 → zg g 4 mX5_sellingWeek T 94 [none, none, some (.int e1.1), none, none, none] [] T e1.2 v T S') → zg g 4 mX5_sellingWeek T 25 [some (.ref k0), some (.int x1), some (.int a.1), some (.int a.2.1), some (.int a.2.2.1), none] [] T a.2.2.2 v T S' := by
  intro n
  induction n with
  | zero =>
    intro a e h
    cases h
  | succ n ih =>
    intro a e h k0_
    rcases lpn_succ h with ⟨a1, ha_, hb_⟩ | ha_
    · exact tX5_sellingWeek_l25b T k0 x1 a.1 a.2.1 a.2.2.1 a.2.2.2 h0 _ ha_ (fun a2 q => by cases q; exact ih a1 e hb_ k0_) (fun e1 q => by cases q)
    · exact tX5_sellingWeek_l25b T k0 x1 a.1 a.2.1 a.2.2.1 a.2.2.2 h0 _ ha_ (fun a2 q => by cases q) (fun e1 q => by cases q; exact k0_ _ rfl)
set_option maxHeartbeats 4000000 in
set_option maxRecDepth 100000 in
theorem tX5_sellingWeek_b94 (T : zT) (x2 : Int32) (S : zS)  {g : zG} (r : (Int32 × zS)) (h : fX5_sellingWeek_b94 T x2 S = some r)  : zg g 4 mX5_sellingWeek T 94 [none, none, some (.int x2), none, none, none] [] T S (some (.int r.1)) T r.2 := by
  unfold fX5_sellingWeek_b94 at h
  refine z_iload_n dX5_sellingWeek_94 rfl ?_
  cases h
  exact z_iret rfl dX5_sellingWeek_95
set_option maxHeartbeats 4000000 in
set_option maxRecDepth 100000 in
theorem tX5_sellingWeek (T : zT) (k0 : Nat) (x1 : Int32) (S : zS) (h0 : iX5 T k0) (r : Int32 × zS) (h : fX5_sellingWeek T k0 x1 S = some r) : zGM 4 mX5_sellingWeek [.ref k0, .int x1] T S (some (.int r.1)) T r.2 := by
  refine zGM_of zpnX5 rfl (Nat.le_of_ble_eq_true rfl) (fun g => ?_)
  show zg g 4 mX5_sellingWeek T 0 [some (.ref k0), some (.int x1), none, none, none, none] [] T S (some (.int r.1)) T r.2
  unfold fX5_sellingWeek at h
  refine z_iconst dX5_sellingWeek_0 cI_m1 ?_
  refine z_istore_n dX5_sellingWeek_1 rfl (by decide) rfl ?_
  refine z_aload_n dX5_sellingWeek_2 rfl ?_
  refine z_gI (zF.x zfX5_98) h0.1 dX5_sellingWeek_3 ?_
  obtain ⟨u1, eu1, h⟩ := zlet_elim h
  refine z_ti eu1 ?_
  refine z_istore_n dX5_sellingWeek_6 rfl (by decide) rfl ?_
  refine z_aload_n dX5_sellingWeek_7 rfl ?_
  refine z_gA (zF.x zfX5_32) h0.1 dX5_sellingWeek_8 ?_
  refine z_iconst dX5_sellingWeek_11 cI_0 ?_
  refine z_aload_n dX5_sellingWeek_12 rfl ?_
  refine z_gR (zF.x zfX5_9) h0.1 dX5_sellingWeek_13 ?_
  refine z_gI (zF.x zfX5_64) h0.2.1.1 dX5_sellingWeek_16 ?_
  obtain ⟨r2, S4, hc3, h⟩ := zb_elim h
  refine z_callS (As := [.ref (zr T k0 11), .int 0, .int (S.1 (zr T k0 0) 2)]) zkX5_68 zsX5_start (tX5_start T (zr T k0 11) 256 0 (S.1 (zr T k0 0) 2) S h0.2.2.2.2.2.2.2.1 (r2, S4) hc3) rfl rfl (Nat.le_of_ble_eq_true rfl) (by decide) ⟨Nat.le_refl _, Nat.le_refl _⟩ ⟨Nat.le_refl _, Nat.le_refl _⟩ dX5_sellingWeek_19 ?_
  refine z_iconst dX5_sellingWeek_22 cI_0 ?_
  refine z_istore dX5_sellingWeek_23 rfl (by decide) rfl ?_
  obtain ⟨e17, hl18, h⟩ := zb1_elim h
  obtain ⟨nf19, hl18⟩ := lp_some hl18
  refine z_mask [true, true, true, true, true, false] rfl (tX5_sellingWeek_l25 T k0 x1 h0 nf19 ((-1), u1, 0, S4) e17 hl18 (fun e_ q => ?_))
  · cases q
    exact z_mask [false, false, true, false, false, false] rfl (tX5_sellingWeek_b94 T e17.1 e17.2  r h)
/-! X5_prepare -/
noncomputable def fX5_prepare_l68 (T : zT) (k0 : Nat) (x1 : Int32) (S : zS) : Option ((Int32 × zS) ⊕ zS) :=
  if (S.1 (zr T k0 0) 1) ≤ x1 then some (.inr S) else if 60 ≤ x1 then some (.inr S) else zb (fX5_pass T k0 (zr T k0 11) 256 x1 0 (zr T k0 9) 15360 S) fun _ S17 => zgd (zcg 0 (x1 * 256) 256 256 15360) (zlet (zCp S17 (zr T k0 11) (zr T k0 8) (0 : Int32).toNatClampNeg ((x1 * 256) : Int32).toNatClampNeg (256 : Int32).toNatClampNeg) fun S19 => zb (fX5_countStates T k0 S19) fun _ S22 => zlet (x1 + 1) fun u23 => some (.inl (u23, S22)))
noncomputable def fX5_prepare_b129 (T : zT) (k0 : Nat) (S : zS) : Option (Unit × zS) :=
  zb1 (fX5_mostIn T (zr T k0 11) 256 S) fun r25 => zlet (zI S k0 3 r25) fun S27 => zb1 (fX5_lastSet T k0 S27) fun r28 => zlet (zI S27 k0 4 r28) fun S30 => zb (fX5_tracePlan T k0 S30) fun _ S33 => zlet (zI S33 k0 2 1) fun S34 => some ((), S34)
noncomputable def fX5_prepare_b41 (T : zT) (k0 : Nat) (S : zS) : Option (Unit × zS) :=
  zb (fX5_start T (zr T k0 11) 256 0 (S.1 (zr T k0 0) 2) S) fun _ S10 => zlet (zI S10 k0 5 0) fun S11 => zlet (zI S11 k0 6 0) fun S12 => zb1 (lp (fun a => fX5_prepare_l68 T k0 a.1 a.2) (0, S12)) fun e24 => fX5_prepare_b129 T k0 e24
noncomputable def fX5_prepare (T : zT) (k0 : Nat) (S : zS) : Option (Unit × zS) :=
  if (S.1 k0 2) = 0 then zb (fX5_fillGains T k0 (zr T k0 9) 15360 0 S) fun _ S4 => zb1 (fX2_asks T (zr T (zr T k0 0) 14) 21 S4) fun r5 => if r5 = 0 then fX5_prepare_b41 T k0 S4 else zb (fX5_fillGains T k0 (zr T k0 10) 15360 1 S4) fun _ S39 => fX5_prepare_b41 T k0 S39 else some ((), S)
set_option maxHeartbeats 4000000 in
set_option maxRecDepth 100000 in
theorem tX5_prepare_l68b (T : zT) (k0 : Nat) (x1 : Int32) (S : zS) (h0 : iX5 T k0) {g : zG} {v : Option Value} {S' : zS} (r : (Int32 × zS) ⊕ zS) (h : fX5_prepare_l68 T k0 x1 S = some r) (K1 : ∀ a : (Int32 × zS), r = .inl a → zg g 5 mX5_prepare T 68 [some (.ref k0), some (.int a.1)] [] T a.2 v T S') (K2_0 : ∀ e : zS, r = .inr e → zg g 5 mX5_prepare T 129 [some (.ref k0), none] [] T e v T S') : zg g 5 mX5_prepare T 68 [some (.ref k0), some (.int x1)] [] T S v T S' := by
  unfold fX5_prepare_l68 at h
  refine z_iload_n dX5_prepare_68 rfl ?_
  refine z_aload_n dX5_prepare_69 rfl ?_
  refine z_gR (zF.x zfX5_9) h0.1 dX5_prepare_70 ?_
  refine z_gI (zF.x zfX5_78) h0.2.1.1 dX5_prepare_73 ?_
  refine z_icmp_ge (tgt := 129) dX5_prepare_76 (by decide) (fun q13 => ?_) (fun q13 => ?_)
  · rw [if_pos q13] at h
    cases h
    exact z_mask [true, false] rfl (K2_0 _ rfl)
  · rw [if_neg q13] at h
    refine z_iload_n dX5_prepare_79 rfl ?_
    refine z_bipush dX5_prepare_80 cB_60 ?_
    refine z_icmp_ge (tgt := 129) dX5_prepare_82 (by decide) (fun q14 => ?_) (fun q14 => ?_)
    · rw [if_pos q14] at h
      cases h
      exact z_mask [true, false] rfl (K2_0 _ rfl)
    · rw [if_neg q14] at h
      refine z_aload_n dX5_prepare_85 rfl ?_
      refine z_aload_n dX5_prepare_86 rfl ?_
      refine z_gA (zF.x zfX5_32) h0.1 dX5_prepare_87 ?_
      refine z_iload_n dX5_prepare_90 rfl ?_
      refine z_iconst dX5_prepare_91 cI_0 ?_
      refine z_aload_n dX5_prepare_92 rfl ?_
      refine z_gA (zF.x zfX5_26) h0.1 dX5_prepare_93 ?_
      obtain ⟨r15, S17, hc16, h⟩ := zb_elim h
      refine z_callV (As := [.ref (zr T k0 11), .int x1, .int 0, .ref (zr T k0 9)]) zcX5 zkX5_81 ziX5_pass zqX5_pass h0.1 (tX5_pass T k0 (zr T k0 11) 256 x1 0 (zr T k0 9) 15360 S h0 h0.2.2.2.2.2.2.2.1 h0.2.2.2.2.2.1 (r15, S17) hc16) rfl rfl (Nat.le_of_ble_eq_true rfl) (by decide) ⟨Nat.le_refl _, Nat.le_refl _⟩ ⟨Nat.le_refl _, Nat.le_refl _⟩ dX5_prepare_96 ?_
      refine z_aload_n dX5_prepare_99 rfl ?_
      refine z_gA (zF.x zfX5_32) h0.1 dX5_prepare_100 ?_
      refine z_iconst dX5_prepare_103 cI_0 ?_
      refine z_aload_n dX5_prepare_104 rfl ?_
      refine z_gA (zF.x zfX5_23) h0.1 dX5_prepare_105 ?_
      refine z_iload_n dX5_prepare_108 rfl ?_
      refine z_sipush dX5_prepare_109 cS_256 ?_
      refine z_imul dX5_prepare_112 rfl ?_
      refine z_sipush dX5_prepare_113 cS_256 ?_
      obtain ⟨q18, h⟩ := zgd_elim h
      obtain ⟨q18a, q18b, q18c, q18d, q18e⟩ := zcg_ok q18
      refine z_copy zxX5_85 zcp_native zcp_static zjJ10 h0.2.2.2.2.2.2.2.1 h0.2.2.2.2.1 q18a q18b q18c q18d q18e (by decide) (Nat.le_of_ble_eq_true rfl) dX5_prepare_116 ?_
      obtain ⟨S19, eS19, h⟩ := zlet_elim h
      refine z_tS eS19 ?_
      refine z_aload_n dX5_prepare_119 rfl ?_
      obtain ⟨r20, S22, hc21, h⟩ := zb_elim h
      refine z_callV (As := []) zcX5 zkX5_91 ziX5_countStates zqX5_countStates h0.1 (tX5_countStates T k0 S19 h0 (r20, S22) hc21) rfl rfl (Nat.le_of_ble_eq_true rfl) (by decide) ⟨Nat.le_refl _, Nat.le_refl _⟩ ⟨Nat.le_refl _, Nat.le_refl _⟩ dX5_prepare_120 ?_
      obtain ⟨u23, eu23, h⟩ := zlet_elim h
      refine z_iinc (r := u23) dX5_prepare_123 rfl (by rw [eu23, cI_1]) rfl (by decide) rfl ?_
      refine z_goto (tgt := 68) dX5_prepare_126 (by decide) ?_
      cases h
      exact z_mask [true, true] rfl (K1 _ rfl)
set_option maxHeartbeats 4000000 in
set_option maxRecDepth 100000 in
theorem tX5_prepare_l68 (T : zT) (k0 : Nat) (h0 : iX5 T k0) {g : zG} {v : Option Value} {S' : zS} : ∀ (n : Nat) (a : (Int32 × zS)) (e : zS), lpn (fun a => fX5_prepare_l68 T k0 a.1 a.2) n a = some e → (∀ e1 : zS, e = e1 → zg g 5 mX5_prepare T 129 [some (.ref k0), none] [] T e1 v T S') → zg g 5 mX5_prepare T 68 [some (.ref k0), some (.int a.1)] [] T a.2 v T S' := by
  intro n
  induction n with
  | zero =>
    intro a e h
    cases h
  | succ n ih =>
    intro a e h k0_
    rcases lpn_succ h with ⟨a1, ha_, hb_⟩ | ha_
    · exact tX5_prepare_l68b T k0 a.1 a.2 h0 _ ha_ (fun a2 q => by cases q; exact ih a1 e hb_ k0_) (fun e1 q => by cases q)
    · exact tX5_prepare_l68b T k0 a.1 a.2 h0 _ ha_ (fun a2 q => by cases q) (fun e1 q => by cases q; exact k0_ _ rfl)
set_option maxHeartbeats 4000000 in
set_option maxRecDepth 100000 in
theorem tX5_prepare_b129 (T : zT) (k0 : Nat) (S : zS) (h0 : iX5 T k0) {g : zG} (r : (Unit × zS)) (h : fX5_prepare_b129 T k0 S = some r)  : zg g 5 mX5_prepare T 129 [some (.ref k0), none] [] T S none T r.2 := by
  unfold fX5_prepare_b129 at h
  refine z_aload_n dX5_prepare_129 rfl ?_
  refine z_aload_n dX5_prepare_130 rfl ?_
  refine z_gA (zF.x zfX5_32) h0.1 dX5_prepare_131 ?_
  obtain ⟨r25, hc26, h⟩ := zb1_elim h
  refine z_callS (As := [.ref (zr T k0 11)]) zkX5_94 zsX5_mostIn (tX5_mostIn T (zr T k0 11) 256 S h0.2.2.2.2.2.2.2.1 r25 hc26) rfl rfl (Nat.le_of_ble_eq_true rfl) (by decide) ⟨Nat.le_refl _, Nat.le_refl _⟩ ⟨Nat.le_refl _, Nat.le_refl _⟩ dX5_prepare_134 ?_
  refine z_putI zfX5_98 h0.1 dX5_prepare_137 ?_
  obtain ⟨S27, eS27, h⟩ := zlet_elim h
  refine z_tS eS27 ?_
  refine z_aload_n dX5_prepare_140 rfl ?_
  refine z_aload_n dX5_prepare_141 rfl ?_
  obtain ⟨r28, hc29, h⟩ := zb1_elim h
  refine z_callV (As := []) zcX5 zkX5_101 ziX5_lastSet zqX5_lastSet h0.1 (tX5_lastSet T k0 S27 h0 r28 hc29) rfl rfl (Nat.le_of_ble_eq_true rfl) (by decide) ⟨Nat.le_refl _, Nat.le_refl _⟩ ⟨Nat.le_refl _, Nat.le_refl _⟩ dX5_prepare_142 ?_
  refine z_putI zfX5_105 h0.1 dX5_prepare_145 ?_
  obtain ⟨S30, eS30, h⟩ := zlet_elim h
  refine z_tS eS30 ?_
  refine z_aload_n dX5_prepare_148 rfl ?_
  obtain ⟨r31, S33, hc32, h⟩ := zb_elim h
  refine z_callV (As := []) zcX5 zkX5_108 ziX5_tracePlan zqX5_tracePlan h0.1 (tX5_tracePlan T k0 S30 h0 (r31, S33) hc32) rfl rfl (Nat.le_of_ble_eq_true rfl) (by decide) ⟨Nat.le_refl _, Nat.le_refl _⟩ ⟨Nat.le_refl _, Nat.le_refl _⟩ dX5_prepare_149 ?_
  refine z_aload_n dX5_prepare_152 rfl ?_
  refine z_iconst dX5_prepare_153 cI_1 ?_
  refine z_putZ zfX5_44 (Or.inr rfl) h0.1 dX5_prepare_154 ?_
  obtain ⟨S34, eS34, h⟩ := zlet_elim h
  refine z_tS eS34 ?_
  cases h
  exact z_vret rfl dX5_prepare_157
set_option maxHeartbeats 4000000 in
set_option maxRecDepth 100000 in
theorem tX5_prepare_b41 (T : zT) (k0 : Nat) (S : zS) (h0 : iX5 T k0) {g : zG} (r : (Unit × zS)) (h : fX5_prepare_b41 T k0 S = some r)  : zg g 5 mX5_prepare T 41 [some (.ref k0), none] [] T S none T r.2 := by
  unfold fX5_prepare_b41 at h
  refine z_aload_n dX5_prepare_41 rfl ?_
  refine z_gA (zF.x zfX5_32) h0.1 dX5_prepare_42 ?_
  refine z_iconst dX5_prepare_45 cI_0 ?_
  refine z_aload_n dX5_prepare_46 rfl ?_
  refine z_gR (zF.x zfX5_9) h0.1 dX5_prepare_47 ?_
  refine z_gI (zF.x zfX5_64) h0.2.1.1 dX5_prepare_50 ?_
  obtain ⟨r8, S10, hc9, h⟩ := zb_elim h
  refine z_callS (As := [.ref (zr T k0 11), .int 0, .int (S.1 (zr T k0 0) 2)]) zkX5_68 zsX5_start (tX5_start T (zr T k0 11) 256 0 (S.1 (zr T k0 0) 2) S h0.2.2.2.2.2.2.2.1 (r8, S10) hc9) rfl rfl (Nat.le_of_ble_eq_true rfl) (by decide) ⟨Nat.le_refl _, Nat.le_refl _⟩ ⟨Nat.le_refl _, Nat.le_refl _⟩ dX5_prepare_53 ?_
  refine z_aload_n dX5_prepare_56 rfl ?_
  refine z_iconst dX5_prepare_57 cI_0 ?_
  refine z_putI zfX5_72 h0.1 dX5_prepare_58 ?_
  obtain ⟨S11, eS11, h⟩ := zlet_elim h
  refine z_tS eS11 ?_
  refine z_aload_n dX5_prepare_61 rfl ?_
  refine z_iconst dX5_prepare_62 cI_0 ?_
  refine z_putI zfX5_75 h0.1 dX5_prepare_63 ?_
  obtain ⟨S12, eS12, h⟩ := zlet_elim h
  refine z_tS eS12 ?_
  refine z_iconst dX5_prepare_66 cI_0 ?_
  refine z_istore_n dX5_prepare_67 rfl (by decide) rfl ?_
  obtain ⟨e24, hl35, h⟩ := zb1_elim h
  obtain ⟨nf36, hl35⟩ := lp_some hl35
  refine z_mask [true, true] rfl (tX5_prepare_l68 T k0 h0 nf36 (0, S12) e24 hl35 (fun e_ q => ?_))
  · cases q
    exact z_mask [true, false] rfl (tX5_prepare_b129 T k0 e24 h0 r h)
set_option maxHeartbeats 4000000 in
set_option maxRecDepth 100000 in
theorem tX5_prepare (T : zT) (k0 : Nat) (S : zS) (h0 : iX5 T k0) (r : Unit × zS) (h : fX5_prepare T k0 S = some r) : zGM 5 mX5_prepare [.ref k0] T S none T r.2 := by
  refine zGM_of zpnX5 rfl (Nat.le_of_ble_eq_true rfl) (fun g => ?_)
  show zg g 5 mX5_prepare T 0 [some (.ref k0), none] [] T S none T r.2
  unfold fX5_prepare at h
  refine z_aload_n dX5_prepare_0 rfl ?_
  refine z_gZ (zF.x zfX5_44) h0.1 dX5_prepare_1 ?_
  refine z_if_eq (tgt := 8) dX5_prepare_4 (by decide) (fun q1 => ?_) (fun q1 => ?_)
  · rw [if_pos q1] at h
    refine z_aload_n dX5_prepare_8 rfl ?_
    refine z_aload_n dX5_prepare_9 rfl ?_
    refine z_gA (zF.x zfX5_26) h0.1 dX5_prepare_10 ?_
    refine z_iconst dX5_prepare_13 cI_0 ?_
    obtain ⟨r2, S4, hc3, h⟩ := zb_elim h
    refine z_callV (As := [.ref (zr T k0 9), .int 0]) zcX5 zkX5_48 ziX5_fillGains zqX5_fillGains h0.1 (tX5_fillGains T k0 (zr T k0 9) 15360 0 S h0 h0.2.2.2.2.2.1 (r2, S4) hc3) rfl rfl (Nat.le_of_ble_eq_true rfl) (by decide) ⟨Nat.le_refl _, Nat.le_refl _⟩ ⟨Nat.le_refl _, Nat.le_refl _⟩ dX5_prepare_14 ?_
    refine z_aload_n dX5_prepare_17 rfl ?_
    refine z_gR (zF.x zfX5_9) h0.1 dX5_prepare_18 ?_
    refine z_gR zfX5_52 h0.2.1.1 dX5_prepare_21 ?_
    refine z_bipush dX5_prepare_24 cB_21 ?_
    obtain ⟨r5, hc6, h⟩ := zb1_elim h
    refine z_callV (As := [.int 21]) zcX2 zkX5_58 ziX2_asks zqX2_asks h0.2.1.2.2.2.2.2.2.2.2.2.1 (tX2_asks T (zr T (zr T k0 0) 14) 21 S4 h0.2.1.2.2.2.2.2.2.2.2.2 r5 hc6) rfl rfl (Nat.le_of_ble_eq_true rfl) (by decide) ⟨Nat.le_refl _, Nat.le_refl _⟩ ⟨Nat.le_refl _, Nat.le_refl _⟩ dX5_prepare_26 ?_
    refine z_if_eq (tgt := 41) dX5_prepare_29 (by decide) (fun q7 => ?_) (fun q7 => ?_)
    · rw [if_pos q7] at h
      exact z_mask [true, false] rfl (tX5_prepare_b41 T k0 S4 h0 r h)
    · rw [if_neg q7] at h
      refine z_aload_n dX5_prepare_32 rfl ?_
      refine z_aload_n dX5_prepare_33 rfl ?_
      refine z_gA (zF.x zfX5_29) h0.1 dX5_prepare_34 ?_
      refine z_iconst dX5_prepare_37 cI_1 ?_
      obtain ⟨r37, S39, hc38, h⟩ := zb_elim h
      refine z_callV (As := [.ref (zr T k0 10), .int 1]) zcX5 zkX5_48 ziX5_fillGains zqX5_fillGains h0.1 (tX5_fillGains T k0 (zr T k0 10) 15360 1 S4 h0 h0.2.2.2.2.2.2.1 (r37, S39) hc38) rfl rfl (Nat.le_of_ble_eq_true rfl) (by decide) ⟨Nat.le_refl _, Nat.le_refl _⟩ ⟨Nat.le_refl _, Nat.le_refl _⟩ dX5_prepare_38 ?_
      exact z_mask [true, false] rfl (tX5_prepare_b41 T k0 S39 h0 r h)
  · rw [if_neg q1] at h
    cases h
    exact z_vret rfl dX5_prepare_7
