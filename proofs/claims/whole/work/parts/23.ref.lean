/-! X12_borrowedIn -/
noncomputable def fX12_borrowedIn_b39 (T : zT)  (S : zS) : Option (Int32 × zS) :=
  some ((-2), S)
noncomputable def fX12_borrowedIn_b63 (T : zT) (s0 : Int32) (S : zS) : Option (Int32 × zS) :=
  some (s0, S)
noncomputable def fX12_borrowedIn (T : zT) (k0 : Nat) (x1 : Int32) (S : zS) : Option (Int32 × zS) :=
  zb (fX12_asItIs T k0 S) fun _ S3 => zgd (zin 0 2) (if (S3.1 (zr T k0 31) (0 : Int32).toNatClampNeg) = (-1) then fX12_borrowedIn_b39 T  S3 else zgd (zin 0 2) (zgd (zin 0 2) (if (S3.1 (zr T k0 33) (0 : Int32).toNatClampNeg) ≤ (S3.1 (zr T k0 31) (0 : Int32).toNatClampNeg) then fX12_borrowedIn_b39 T  S3 else zgd (zin 0 2) (if x1 < (S3.1 (zr T k0 31) (0 : Int32).toNatClampNeg) then zlet (zI S3 k0 58 x1) fun S11 => zb (fX12_mostCoin T k0 S11) fun r12 S14 => if r12 = (-1) then fX12_borrowedIn_b63 T (-2) S14 else fX12_borrowedIn_b63 T r12 S14 else fX12_borrowedIn_b39 T  S3))))
set_option maxHeartbeats 4000000 in
set_option maxRecDepth 100000 in
theorem tX12_borrowedIn_b39 (T : zT)  (S : zS)  {g : zG} (r : (Int32 × zS)) (h : fX12_borrowedIn_b39 T  S = some r)  : zg g 7 mX12_borrowedIn T 39 [none, none, none] [] T S (some (.int r.1)) T r.2 := by
  unfold fX12_borrowedIn_b39 at h
  refine z_bipush dX12_borrowedIn_39 cB_m2 ?_
  cases h
  exact z_iret rfl dX12_borrowedIn_41
set_option maxHeartbeats 4000000 in
set_option maxRecDepth 100000 in
theorem tX12_borrowedIn_b63 (T : zT) (s0 : Int32) (S : zS)  {g : zG} (r : (Int32 × zS)) (h : fX12_borrowedIn_b63 T s0 S = some r)  : zg g 7 mX12_borrowedIn T 63 [none, none, none] [.int s0] T S (some (.int r.1)) T r.2 := by
  unfold fX12_borrowedIn_b63 at h
  cases h
  exact z_iret rfl dX12_borrowedIn_63
set_option maxHeartbeats 4000000 in
set_option maxRecDepth 100000 in
theorem tX12_borrowedIn (T : zT) (k0 : Nat) (x1 : Int32) (S : zS) (h0 : iX12 T k0) (r : Int32 × zS) (h : fX12_borrowedIn T k0 x1 S = some r) : zGM 7 mX12_borrowedIn [.ref k0, .int x1] T S (some (.int r.1)) T r.2 := by
  refine zGM_of zpnX12 rfl (Nat.le_of_ble_eq_true rfl) (fun g => ?_)
  show zg g 7 mX12_borrowedIn T 0 [some (.ref k0), some (.int x1), none] [] T S (some (.int r.1)) T r.2
  unfold fX12_borrowedIn at h
  refine z_aload_n dX12_borrowedIn_0 rfl ?_
  obtain ⟨r1, S3, hc2, h⟩ := zb_elim h
  refine z_callV (As := []) zcX12 zkX12_497 ziX12_asItIs zqX12_asItIs h0.1 (tX12_asItIs T k0 S h0 (r1, S3) hc2) rfl rfl (Nat.le_of_ble_eq_true rfl) (by decide) ⟨Nat.le_refl _, Nat.le_refl _⟩ ⟨Nat.le_refl _, Nat.le_refl _⟩ dX12_borrowedIn_1 ?_
  refine z_aload_n dX12_borrowedIn_4 rfl ?_
  refine z_gA (zF.x zfX12_71) h0.1 dX12_borrowedIn_5 ?_
  refine z_iconst dX12_borrowedIn_8 cI_0 ?_
  obtain ⟨q4, h⟩ := zgd_elim h
  refine z_iald h0.2.2.2.2.2.2.2.2.2.2.2.2.2.2.2.2.2.2.2.2.2.1 (zin_ok q4) dX12_borrowedIn_9 ?_
  refine z_iconst dX12_borrowedIn_10 cI_m1 ?_
  refine z_icmp_eq (tgt := 39) dX12_borrowedIn_11 (by decide) (fun q5 => ?_) (fun q5 => ?_)
  · rw [if_pos q5] at h
    exact z_mask [false, false, false] rfl (tX12_borrowedIn_b39 T  S3  r h)
  · rw [if_neg q5] at h
    refine z_aload_n dX12_borrowedIn_14 rfl ?_
    refine z_gA (zF.x zfX12_71) h0.1 dX12_borrowedIn_15 ?_
    refine z_iconst dX12_borrowedIn_18 cI_0 ?_
    obtain ⟨q6, h⟩ := zgd_elim h
    refine z_iald h0.2.2.2.2.2.2.2.2.2.2.2.2.2.2.2.2.2.2.2.2.2.1 (zin_ok q6) dX12_borrowedIn_19 ?_
    refine z_aload_n dX12_borrowedIn_20 rfl ?_
    refine z_gA (zF.x zfX12_77) h0.1 dX12_borrowedIn_21 ?_
    refine z_iconst dX12_borrowedIn_24 cI_0 ?_
    obtain ⟨q7, h⟩ := zgd_elim h
    refine z_iald h0.2.2.2.2.2.2.2.2.2.2.2.2.2.2.2.2.2.2.2.2.2.2.2.1 (zin_ok q7) dX12_borrowedIn_25 ?_
    refine z_icmp_ge (tgt := 39) dX12_borrowedIn_26 (by decide) (fun q8 => ?_) (fun q8 => ?_)
    · rw [if_pos q8] at h
      exact z_mask [false, false, false] rfl (tX12_borrowedIn_b39 T  S3  r h)
    · rw [if_neg q8] at h
      refine z_iload_n dX12_borrowedIn_29 rfl ?_
      refine z_aload_n dX12_borrowedIn_30 rfl ?_
      refine z_gA (zF.x zfX12_71) h0.1 dX12_borrowedIn_31 ?_
      refine z_iconst dX12_borrowedIn_34 cI_0 ?_
      obtain ⟨q9, h⟩ := zgd_elim h
      refine z_iald h0.2.2.2.2.2.2.2.2.2.2.2.2.2.2.2.2.2.2.2.2.2.1 (zin_ok q9) dX12_borrowedIn_35 ?_
      refine z_icmp_lt (tgt := 42) dX12_borrowedIn_36 (by decide) (fun q10 => ?_) (fun q10 => ?_)
      · rw [if_pos q10] at h
        refine z_aload_n dX12_borrowedIn_42 rfl ?_
        refine z_iload_n dX12_borrowedIn_43 rfl ?_
        refine z_putI zfX12_473 h0.1 dX12_borrowedIn_44 ?_
        obtain ⟨S11, eS11, h⟩ := zlet_elim h
        refine z_tS eS11 ?_
        refine z_aload_n dX12_borrowedIn_47 rfl ?_
        obtain ⟨r12, S14, hc13, h⟩ := zb_elim h
        refine z_callV (As := []) zcX12 zkX12_502 ziX12_mostCoin zqX12_mostCoin h0.1 (tX12_mostCoin T k0 S11 h0 (r12, S14) hc13) rfl rfl (Nat.le_of_ble_eq_true rfl) (by decide) ⟨Nat.le_refl _, Nat.le_refl _⟩ ⟨Nat.le_refl _, Nat.le_refl _⟩ dX12_borrowedIn_48 ?_
        refine z_istore_n dX12_borrowedIn_51 rfl (by decide) rfl ?_
        refine z_iload_n dX12_borrowedIn_52 rfl ?_
        refine z_iconst dX12_borrowedIn_53 cI_m1 ?_
        refine z_icmp_ne (tgt := 62) dX12_borrowedIn_54 (by decide) (fun q15 => ?_) (fun q15 => ?_)
        · rw [if_neg q15] at h
          refine z_iload_n dX12_borrowedIn_62 rfl ?_
          exact z_mask [false, false, false] rfl (tX12_borrowedIn_b63 T r12 S14  r h)
        · rw [if_pos q15] at h
          refine z_bipush dX12_borrowedIn_57 cB_m2 ?_
          refine z_goto (tgt := 63) dX12_borrowedIn_59 (by decide) ?_
          exact z_mask [false, false, false] rfl (tX12_borrowedIn_b63 T (-2) S14  r h)
      · rw [if_neg q10] at h
        exact z_mask [false, false, false] rfl (tX12_borrowedIn_b39 T  S3  r h)
/-! X12_soldBy -/
noncomputable def fX12_soldBy_b53 (T : zT) (s0 : Int32) (S : zS) : Option (Int32 × zS) :=
  some (s0, S)
noncomputable def fX12_soldBy_b27 (T : zT) (k0 : Nat) (x1 : Int32) (x2 : Int32) (S : zS) : Option (Int32 × zS) :=
  zlet (zI S k0 56 x1) fun S6 => zlet (zI S6 k0 57 x2) fun S7 => zb (fX12_mostCoin T k0 S7) fun r8 S10 => if r8 = (-1) then fX12_soldBy_b53 T (-2) S10 else fX12_soldBy_b53 T r8 S10
noncomputable def fX12_soldBy (T : zT) (k0 : Nat) (x1 : Int32) (x2 : Int32) (S : zS) : Option (Int32 × zS) :=
  zb (fX12_asItIs T k0 S) fun _ S3 => zgd (zin x1 16) (if (S3.1 (zr T k0 25) (x1 : Int32).toNatClampNeg) = (-1) then fX12_soldBy_b27 T k0 x1 x2 S3 else zgd (zin x1 16) (if x2 < (S3.1 (zr T k0 25) (x1 : Int32).toNatClampNeg) then fX12_soldBy_b27 T k0 x1 x2 S3 else some ((-2), S3)))
set_option maxHeartbeats 4000000 in
set_option maxRecDepth 100000 in
theorem tX12_soldBy_b53 (T : zT) (s0 : Int32) (S : zS)  {g : zG} (r : (Int32 × zS)) (h : fX12_soldBy_b53 T s0 S = some r)  : zg g 7 mX12_soldBy T 53 [none, none, none, none] [.int s0] T S (some (.int r.1)) T r.2 := by
  unfold fX12_soldBy_b53 at h
  cases h
  exact z_iret rfl dX12_soldBy_53
set_option maxHeartbeats 4000000 in
set_option maxRecDepth 100000 in
theorem tX12_soldBy_b27 (T : zT) (k0 : Nat) (x1 : Int32) (x2 : Int32) (S : zS) (h0 : iX12 T k0) {g : zG} (r : (Int32 × zS)) (h : fX12_soldBy_b27 T k0 x1 x2 S = some r)  : zg g 7 mX12_soldBy T 27 [some (.ref k0), some (.int x1), some (.int x2), none] [] T S (some (.int r.1)) T r.2 := by
  unfold fX12_soldBy_b27 at h
  refine z_aload_n dX12_soldBy_27 rfl ?_
  refine z_iload_n dX12_soldBy_28 rfl ?_
  refine z_putI zfX12_467 h0.1 dX12_soldBy_29 ?_
  obtain ⟨S6, eS6, h⟩ := zlet_elim h
  refine z_tS eS6 ?_
  refine z_aload_n dX12_soldBy_32 rfl ?_
  refine z_iload_n dX12_soldBy_33 rfl ?_
  refine z_putI zfX12_470 h0.1 dX12_soldBy_34 ?_
  obtain ⟨S7, eS7, h⟩ := zlet_elim h
  refine z_tS eS7 ?_
  refine z_aload_n dX12_soldBy_37 rfl ?_
  obtain ⟨r8, S10, hc9, h⟩ := zb_elim h
  refine z_callV (As := []) zcX12 zkX12_502 ziX12_mostCoin zqX12_mostCoin h0.1 (tX12_mostCoin T k0 S7 h0 (r8, S10) hc9) rfl rfl (Nat.le_of_ble_eq_true rfl) (by decide) ⟨Nat.le_refl _, Nat.le_refl _⟩ ⟨Nat.le_refl _, Nat.le_refl _⟩ dX12_soldBy_38 ?_
  refine z_istore_n dX12_soldBy_41 rfl (by decide) rfl ?_
  refine z_iload_n dX12_soldBy_42 rfl ?_
  refine z_iconst dX12_soldBy_43 cI_m1 ?_
  refine z_icmp_ne (tgt := 52) dX12_soldBy_44 (by decide) (fun q11 => ?_) (fun q11 => ?_)
  · rw [if_neg q11] at h
    refine z_iload_n dX12_soldBy_52 rfl ?_
    exact z_mask [false, false, false, false] rfl (tX12_soldBy_b53 T r8 S10  r h)
  · rw [if_pos q11] at h
    refine z_bipush dX12_soldBy_47 cB_m2 ?_
    refine z_goto (tgt := 53) dX12_soldBy_49 (by decide) ?_
    exact z_mask [false, false, false, false] rfl (tX12_soldBy_b53 T (-2) S10  r h)
set_option maxHeartbeats 4000000 in
set_option maxRecDepth 100000 in
theorem tX12_soldBy (T : zT) (k0 : Nat) (x1 : Int32) (x2 : Int32) (S : zS) (h0 : iX12 T k0) (r : Int32 × zS) (h : fX12_soldBy T k0 x1 x2 S = some r) : zGM 7 mX12_soldBy [.ref k0, .int x1, .int x2] T S (some (.int r.1)) T r.2 := by
  refine zGM_of zpnX12 rfl (Nat.le_of_ble_eq_true rfl) (fun g => ?_)
  show zg g 7 mX12_soldBy T 0 [some (.ref k0), some (.int x1), some (.int x2), none] [] T S (some (.int r.1)) T r.2
  unfold fX12_soldBy at h
  refine z_aload_n dX12_soldBy_0 rfl ?_
  obtain ⟨r1, S3, hc2, h⟩ := zb_elim h
  refine z_callV (As := []) zcX12 zkX12_497 ziX12_asItIs zqX12_asItIs h0.1 (tX12_asItIs T k0 S h0 (r1, S3) hc2) rfl rfl (Nat.le_of_ble_eq_true rfl) (by decide) ⟨Nat.le_refl _, Nat.le_refl _⟩ ⟨Nat.le_refl _, Nat.le_refl _⟩ dX12_soldBy_1 ?_
  refine z_aload_n dX12_soldBy_4 rfl ?_
  refine z_gA (zF.x zfX12_53) h0.1 dX12_soldBy_5 ?_
  refine z_iload_n dX12_soldBy_8 rfl ?_
  obtain ⟨q4, h⟩ := zgd_elim h
  refine z_iald h0.2.2.2.2.2.2.2.2.2.2.2.2.2.2.2.1 (zin_ok q4) dX12_soldBy_9 ?_
  refine z_iconst dX12_soldBy_10 cI_m1 ?_
  refine z_icmp_eq (tgt := 27) dX12_soldBy_11 (by decide) (fun q5 => ?_) (fun q5 => ?_)
  · rw [if_pos q5] at h
    exact z_mask [true, true, true, false] rfl (tX12_soldBy_b27 T k0 x1 x2 S3 h0 r h)
  · rw [if_neg q5] at h
    refine z_aload_n dX12_soldBy_14 rfl ?_
    refine z_gA (zF.x zfX12_53) h0.1 dX12_soldBy_15 ?_
    refine z_iload_n dX12_soldBy_18 rfl ?_
    obtain ⟨q12, h⟩ := zgd_elim h
    refine z_iald h0.2.2.2.2.2.2.2.2.2.2.2.2.2.2.2.1 (zin_ok q12) dX12_soldBy_19 ?_
    refine z_iload_n dX12_soldBy_20 rfl ?_
    refine z_icmp_gt (tgt := 27) dX12_soldBy_21 (by decide) (fun q13 => ?_) (fun q13 => ?_)
    · rw [if_pos q13] at h
      exact z_mask [true, true, true, false] rfl (tX12_soldBy_b27 T k0 x1 x2 S3 h0 r h)
    · rw [if_neg q13] at h
      refine z_bipush dX12_soldBy_24 cB_m2 ?_
      cases h
      exact z_iret rfl dX12_soldBy_26
/-! X12_finest -/
noncomputable def fX12_finest_b50 (T : zT) (k0 : Nat) (x1 : Int32) (x2 : Int32) (x3 : Int32) (S : zS) : Option ((Int32 × Int32 × Int32 × zS) ⊕ (Int32 × zS)) :=
  zlet (x3 + 1) fun u6 => some (.inl (x1, x2, u6, S))
noncomputable def fX12_finest_b43 (T : zT) (k0 : Nat) (x3 : Int32) (S : zS) : Option ((Int32 × Int32 × Int32 × zS) ⊕ (Int32 × zS)) :=
  zlet (S.1 k0 48) fun u8 => fX12_finest_b50 T k0 x3 u8 x3 S
noncomputable def fX12_finest_l7 (T : zT) (k0 : Nat) (x1 : Int32) (x2 : Int32) (x3 : Int32) (S : zS) : Option ((Int32 × Int32 × Int32 × zS) ⊕ (Int32 × zS)) :=
  if (S.1 k0 5) ≤ x3 then some (.inr (x1, S)) else zb (fX12_follows T k0 x3 0 S) fun _ S4 => if (S4.1 k0 50) = (-1) then if x1 = (-2) then fX12_finest_b43 T k0 x3 S4 else if (S4.1 k0 48) ≤ x2 then fX12_finest_b50 T k0 x1 x2 x3 S4 else fX12_finest_b43 T k0 x3 S4 else fX12_finest_b50 T k0 x1 x2 x3 S4
noncomputable def fX12_finest (T : zT) (k0 : Nat) (S : zS) : Option (Int32 × zS) :=
  zb1 (lp (fun a => fX12_finest_l7 T k0 a.1 a.2.1 a.2.2.1 a.2.2.2) ((-2), 0, 0, S)) fun e10 => some (e10.1, e10.2)
set_option maxHeartbeats 4000000 in
set_option maxRecDepth 100000 in
theorem tX12_finest_b50 (T : zT) (k0 : Nat) (x1 : Int32) (x2 : Int32) (x3 : Int32) (S : zS) (h0 : iX12 T k0) {g : zG} {v : Option Value} {S' : zS} (r : ((Int32 × Int32 × Int32 × zS) ⊕ (Int32 × zS))) (h : fX12_finest_b50 T k0 x1 x2 x3 S = some r) (K1 : ∀ a : (Int32 × Int32 × Int32 × zS), r = .inl a → zg g 7 mX12_finest T 7 [some (.ref k0), some (.int a.1), some (.int a.2.1), some (.int a.2.2.1)] [] T a.2.2.2 v T S') (K2_0 : ∀ e : (Int32 × zS), r = .inr e → zg g 7 mX12_finest T 56 [none, some (.int e.1), none, none] [] T e.2 v T S') : zg g 7 mX12_finest T 50 [some (.ref k0), some (.int x1), some (.int x2), some (.int x3)] [] T S v T S' := by
  unfold fX12_finest_b50 at h
  obtain ⟨u6, eu6, h⟩ := zlet_elim h
  refine z_iinc (r := u6) dX12_finest_50 rfl (by rw [eu6, cI_1]) rfl (by decide) rfl ?_
  refine z_goto (tgt := 7) dX12_finest_53 (by decide) ?_
  cases h
  exact z_mask [true, true, true, true] rfl (K1 _ rfl)
set_option maxHeartbeats 4000000 in
set_option maxRecDepth 100000 in
theorem tX12_finest_b43 (T : zT) (k0 : Nat) (x3 : Int32) (S : zS) (h0 : iX12 T k0) {g : zG} {v : Option Value} {S' : zS} (r : ((Int32 × Int32 × Int32 × zS) ⊕ (Int32 × zS))) (h : fX12_finest_b43 T k0 x3 S = some r) (K1 : ∀ a : (Int32 × Int32 × Int32 × zS), r = .inl a → zg g 7 mX12_finest T 7 [some (.ref k0), some (.int a.1), some (.int a.2.1), some (.int a.2.2.1)] [] T a.2.2.2 v T S') (K2_0 : ∀ e : (Int32 × zS), r = .inr e → zg g 7 mX12_finest T 56 [none, some (.int e.1), none, none] [] T e.2 v T S') : zg g 7 mX12_finest T 43 [some (.ref k0), none, none, some (.int x3)] [] T S v T S' := by
  unfold fX12_finest_b43 at h
  refine z_iload_n dX12_finest_43 rfl ?_
  refine z_istore_n dX12_finest_44 rfl (by decide) rfl ?_
  refine z_aload_n dX12_finest_45 rfl ?_
  refine z_gI (zF.x zfX12_401) h0.1 dX12_finest_46 ?_
  obtain ⟨u8, eu8, h⟩ := zlet_elim h
  refine z_ti eu8 ?_
  refine z_istore_n dX12_finest_49 rfl (by decide) rfl ?_
  exact z_mask [true, true, true, true] rfl (tX12_finest_b50 T k0 x3 u8 x3 S h0 r h K1 K2_0)
set_option maxHeartbeats 4000000 in
set_option maxRecDepth 100000 in
theorem tX12_finest_l7b (T : zT) (k0 : Nat) (x1 : Int32) (x2 : Int32) (x3 : Int32) (S : zS) (h0 : iX12 T k0) {g : zG} {v : Option Value} {S' : zS} (r : (Int32 × Int32 × Int32 × zS) ⊕ (Int32 × zS)) (h : fX12_finest_l7 T k0 x1 x2 x3 S = some r) (K1 : ∀ a : (Int32 × Int32 × Int32 × zS), r = .inl a → zg g 7 mX12_finest T 7 [some (.ref k0), some (.int a.1), some (.int a.2.1), some (.int a.2.2.1)] [] T a.2.2.2 v T S') (K2_0 : ∀ e : (Int32 × zS), r = .inr e → zg g 7 mX12_finest T 56 [none, some (.int e.1), none, none] [] T e.2 v T S') : zg g 7 mX12_finest T 7 [some (.ref k0), some (.int x1), some (.int x2), some (.int x3)] [] T S v T S' := by
  unfold fX12_finest_l7 at h
  refine z_iload_n dX12_finest_7 rfl ?_
  refine z_aload_n dX12_finest_8 rfl ?_
  refine z_gI (zF.x zfX12_360) h0.1 dX12_finest_9 ?_
  refine z_icmp_ge (tgt := 56) dX12_finest_12 (by decide) (fun q1 => ?_) (fun q1 => ?_)
  · rw [if_pos q1] at h
    cases h
    exact z_mask [false, true, false, false] rfl (K2_0 _ rfl)
  · rw [if_neg q1] at h
    refine z_aload_n dX12_finest_15 rfl ?_
    refine z_iload_n dX12_finest_16 rfl ?_
    refine z_iconst dX12_finest_17 cI_0 ?_
    obtain ⟨r2, S4, hc3, h⟩ := zb_elim h
    refine z_callV (As := [.int x3, .int 0]) zcX12 zkX12_554 ziX12_follows zqX12_follows h0.1 (tX12_follows T k0 x3 0 S h0 (r2, S4) hc3) rfl rfl (Nat.le_of_ble_eq_true rfl) (by decide) ⟨Nat.le_refl _, Nat.le_refl _⟩ ⟨Nat.le_refl _, Nat.le_refl _⟩ dX12_finest_18 ?_
    refine z_aload_n dX12_finest_21 rfl ?_
    refine z_gI (zF.x zfX12_411) h0.1 dX12_finest_22 ?_
    refine z_iconst dX12_finest_25 cI_m1 ?_
    refine z_icmp_ne (tgt := 50) dX12_finest_26 (by decide) (fun q5 => ?_) (fun q5 => ?_)
    · rw [if_neg q5] at h
      exact z_mask [true, true, true, true] rfl (tX12_finest_b50 T k0 x1 x2 x3 S4 h0 r h K1 K2_0)
    · rw [if_pos q5] at h
      refine z_iload_n dX12_finest_29 rfl ?_
      refine z_bipush dX12_finest_30 cB_m2 ?_
      refine z_icmp_eq (tgt := 43) dX12_finest_32 (by decide) (fun q7 => ?_) (fun q7 => ?_)
      · rw [if_pos q7] at h
        exact z_mask [true, false, false, true] rfl (tX12_finest_b43 T k0 x3 S4 h0 r h K1 K2_0)
      · rw [if_neg q7] at h
        refine z_aload_n dX12_finest_35 rfl ?_
        refine z_gI (zF.x zfX12_401) h0.1 dX12_finest_36 ?_
        refine z_iload_n dX12_finest_39 rfl ?_
        refine z_icmp_le (tgt := 50) dX12_finest_40 (by decide) (fun q9 => ?_) (fun q9 => ?_)
        · rw [if_pos q9] at h
          exact z_mask [true, true, true, true] rfl (tX12_finest_b50 T k0 x1 x2 x3 S4 h0 r h K1 K2_0)
        · rw [if_neg q9] at h
          exact z_mask [true, false, false, true] rfl (tX12_finest_b43 T k0 x3 S4 h0 r h K1 K2_0)
set_option maxHeartbeats 4000000 in
set_option maxRecDepth 100000 in
theorem tX12_finest_l7 (T : zT) (k0 : Nat) (h0 : iX12 T k0) {g : zG} {v : Option Value} {S' : zS} : ∀ (n : Nat) (a : (Int32 × Int32 × Int32 × zS)) (e : (Int32 × zS)), lpn (fun a => fX12_finest_l7 T k0 a.1 a.2.1 a.2.2.1 a.2.2.2) n a = some e → (∀ e1 : (Int32 × zS), e = e1 → zg g 7 mX12_finest T 56 [none, some (.int e1.1), none, none] [] T e1.2 v T S') → zg g 7 mX12_finest T 7 [some (.ref k0), some (.int a.1), some (.int a.2.1), some (.int a.2.2.1)] [] T a.2.2.2 v T S' := by
  intro n
  induction n with
  | zero =>
    intro a e h
    cases h
  | succ n ih =>
    intro a e h k0_
    rcases lpn_succ h with ⟨a1, ha_, hb_⟩ | ha_
    · exact tX12_finest_l7b T k0 a.1 a.2.1 a.2.2.1 a.2.2.2 h0 _ ha_ (fun a2 q => by cases q; exact ih a1 e hb_ k0_) (fun e1 q => by cases q)
    · exact tX12_finest_l7b T k0 a.1 a.2.1 a.2.2.1 a.2.2.2 h0 _ ha_ (fun a2 q => by cases q) (fun e1 q => by cases q; exact k0_ _ rfl)
set_option maxHeartbeats 4000000 in
set_option maxRecDepth 100000 in
theorem tX12_finest (T : zT) (k0 : Nat) (S : zS) (h0 : iX12 T k0) (r : Int32 × zS) (h : fX12_finest T k0 S = some r) : zGM 7 mX12_finest [.ref k0] T S (some (.int r.1)) T r.2 := by
  refine zGM_of zpnX12 rfl (Nat.le_of_ble_eq_true rfl) (fun g => ?_)
  show zg g 7 mX12_finest T 0 [some (.ref k0), none, none, none] [] T S (some (.int r.1)) T r.2
  unfold fX12_finest at h
  refine z_bipush dX12_finest_0 cB_m2 ?_
  refine z_istore_n dX12_finest_2 rfl (by decide) rfl ?_
  refine z_iconst dX12_finest_3 cI_0 ?_
  refine z_istore_n dX12_finest_4 rfl (by decide) rfl ?_
  refine z_iconst dX12_finest_5 cI_0 ?_
  refine z_istore_n dX12_finest_6 rfl (by decide) rfl ?_
  obtain ⟨e10, hl11, h⟩ := zb1_elim h
  obtain ⟨nf12, hl11⟩ := lp_some hl11
  refine z_mask [true, true, true, true] rfl (tX12_finest_l7 T k0 h0 nf12 ((-2), 0, 0, S) e10 hl11 (fun e_ q => ?_))
  · cases q
    refine z_iload_n dX12_finest_56 rfl ?_
    cases h
    exact z_iret rfl dX12_finest_57
/-! X12_parts -/
noncomputable def fX12_parts_b21 (T : zT)  (S : zS) : Option (Int32 × zS) :=
  some ((-1), S)
noncomputable def fX12_parts_l31 (T : zT) (k0 : Nat) (x1 : Int32) (x3 : Int32) (S : zS) : Option ((Int32 × zS) ⊕ zS) :=
  if 8 ≤ x3 then some (.inr S) else zgd (zin x3 8) (zgd (zin x3 8) (zlet (zI S (zr T k0 62) (x3 : Int32).toNatClampNeg (S.1 (zr T k0 61) (x3 : Int32).toNatClampNeg)) fun S14 => zlet (x3 + 1) fun u15 => some (.inl (u15, S14))))
noncomputable def fX12_parts_b96 (T : zT) (k0 : Nat) (x4 : Int32) (s0 : Int32) (s1 : Int32) (S : zS) : Option ((Int32 × Int32) ⊕ Int32) :=
  zlet (s1 + s0) fun u24 => zlet (x4 + 1) fun u25 => some (.inl (u24, u25))
noncomputable def fX12_parts_l66 (T : zT) (k0 : Nat) (S : zS) (x3 : Int32) (x4 : Int32) : Option ((Int32 × Int32) ⊕ Int32) :=
  if 8 ≤ x4 then some (.inr x3) else zgd (zin x4 8) (zgd (zin x4 8) (if (S.1 (zr T k0 62) (x4 : Int32).toNatClampNeg) = (S.1 (zr T k0 61) (x4 : Int32).toNatClampNeg) then fX12_parts_b96 T k0 x4 0 x3 S else fX12_parts_b96 T k0 x4 1 x3 S))
noncomputable def fX12_parts (T : zT) (k0 : Nat) (x1 : Int32) (x2 : Int32) (S : zS) : Option (Int32 × zS) :=
  zb1 (fX12_isRule T k0 x1 S) fun r1 => if r1 = 0 then fX12_parts_b21 T  S else zb1 (fX12_isRule T k0 x2 S) fun r4 => if r4 = 0 then fX12_parts_b21 T  S else if x1 = x2 then fX12_parts_b21 T  S else zb (fX12_follows T k0 x2 0 S) fun _ S10 => zb1 (lp (fun a => fX12_parts_l31 T k0 x1 a.1 a.2) (0, S10)) fun e16 => zb (fX12_follows T k0 x1 0 e16) fun _ S19 => zb1 (lp (fun a => fX12_parts_l66 T k0 S19 a.1 a.2) (0, 0)) fun e26 => some (e26, S19)
set_option maxHeartbeats 4000000 in
set_option maxRecDepth 100000 in
theorem tX12_parts_b21 (T : zT)  (S : zS)  {g : zG} (r : (Int32 × zS)) (h : fX12_parts_b21 T  S = some r)  : zg g 7 mX12_parts T 21 [none, none, none, none, none] [] T S (some (.int r.1)) T r.2 := by
  unfold fX12_parts_b21 at h
  refine z_iconst dX12_parts_21 cI_m1 ?_
  cases h
  exact z_iret rfl dX12_parts_22
set_option maxHeartbeats 4000000 in
set_option maxRecDepth 100000 in
theorem tX12_parts_l31b (T : zT) (k0 : Nat) (x1 : Int32) (x3 : Int32) (S : zS) (h0 : iX12 T k0) {g : zG} {v : Option Value} {S' : zS} (r : (Int32 × zS) ⊕ zS) (h : fX12_parts_l31 T k0 x1 x3 S = some r) (K1 : ∀ a : (Int32 × zS), r = .inl a → zg g 7 mX12_parts T 31 [some (.ref k0), some (.int x1), none, some (.int a.1), none] [] T a.2 v T S') (K2_0 : ∀ e : zS, r = .inr e → zg g 7 mX12_parts T 55 [some (.ref k0), some (.int x1), none, none, none] [] T e v T S') : zg g 7 mX12_parts T 31 [some (.ref k0), some (.int x1), none, some (.int x3), none] [] T S v T S' := by
  unfold fX12_parts_l31 at h
  refine z_iload_n dX12_parts_31 rfl ?_
  refine z_bipush dX12_parts_32 cB_8 ?_
  refine z_icmp_ge (tgt := 55) dX12_parts_34 (by decide) (fun q11 => ?_) (fun q11 => ?_)
  · rw [if_pos q11] at h
    cases h
    exact z_mask [true, true, false, false, false] rfl (K2_0 _ rfl)
  · rw [if_neg q11] at h
    refine z_aload_n dX12_parts_37 rfl ?_
    refine z_gA (zF.x zfX12_127) h0.1 dX12_parts_38 ?_
    refine z_iload_n dX12_parts_41 rfl ?_
    refine z_aload_n dX12_parts_42 rfl ?_
    refine z_gA (zF.x zfX12_124) h0.1 dX12_parts_43 ?_
    refine z_iload_n dX12_parts_46 rfl ?_
    obtain ⟨q12, h⟩ := zgd_elim h
    refine z_iald h0.2.2.2.2.2.2.2.2.2.2.2.2.2.2.2.2.2.2.2.2.2.2.2.2.2.2.2.2.2.2.2.2.2.2.2.2.2.2.1 (zin_ok q12) dX12_parts_47 ?_
    obtain ⟨q13, h⟩ := zgd_elim h
    refine z_iast h0.2.2.2.2.2.2.2.2.2.2.2.2.2.2.2.2.2.2.2.2.2.2.2.2.2.2.2.2.2.2.2.2.2.2.2.2.2.2.2.1 (zin_ok q13) dX12_parts_48 ?_
    obtain ⟨S14, eS14, h⟩ := zlet_elim h
    refine z_tS eS14 ?_
    obtain ⟨u15, eu15, h⟩ := zlet_elim h
    refine z_iinc (r := u15) dX12_parts_49 rfl (by rw [eu15, cI_1]) rfl (by decide) rfl ?_
    refine z_goto (tgt := 31) dX12_parts_52 (by decide) ?_
    cases h
    exact z_mask [true, true, false, true, false] rfl (K1 _ rfl)
set_option maxHeartbeats 4000000 in
set_option maxRecDepth 100000 in
theorem tX12_parts_l31 (T : zT) (k0 : Nat) (x1 : Int32) (h0 : iX12 T k0) {g : zG} {v : Option Value} {S' : zS} : ∀ (n : Nat) (a : (Int32 × zS)) (e : zS), lpn (fun a => fX12_parts_l31 T k0 x1 a.1 a.2) n a = some e → (∀ e1 : zS, e = e1 → zg g 7 mX12_parts T 55 [some (.ref k0), some (.int x1), none, none, none] [] T e1 v T S') → zg g 7 mX12_parts T 31 [some (.ref k0), some (.int x1), none, some (.int a.1), none] [] T a.2 v T S' := by
  intro n
  induction n with
  | zero =>
    intro a e h
    cases h
  | succ n ih =>
    intro a e h k0_
    rcases lpn_succ h with ⟨a1, ha_, hb_⟩ | ha_
    · exact tX12_parts_l31b T k0 x1 a.1 a.2 h0 _ ha_ (fun a2 q => by cases q; exact ih a1 e hb_ k0_) (fun e1 q => by cases q)
    · exact tX12_parts_l31b T k0 x1 a.1 a.2 h0 _ ha_ (fun a2 q => by cases q) (fun e1 q => by cases q; exact k0_ _ rfl)
set_option maxHeartbeats 4000000 in
set_option maxRecDepth 100000 in
theorem tX12_parts_b96 (T : zT) (k0 : Nat) (x4 : Int32) (s0 : Int32) (s1 : Int32) (S : zS) (h0 : iX12 T k0) {g : zG} {v : Option Value} {S' : zS} (r : ((Int32 × Int32) ⊕ Int32)) (h : fX12_parts_b96 T k0 x4 s0 s1 S = some r) (K1 : ∀ a : (Int32 × Int32), r = .inl a → zg g 7 mX12_parts T 66 [some (.ref k0), none, none, some (.int a.1), some (.int a.2)] [] T S v T S') (K2_0 : ∀ e : Int32, r = .inr e → zg g 7 mX12_parts T 104 [none, none, none, some (.int e), none] [] T S v T S') : zg g 7 mX12_parts T 96 [some (.ref k0), none, none, none, some (.int x4)] [.int s0, .int s1] T S v T S' := by
  unfold fX12_parts_b96 at h
  refine z_iadd dX12_parts_96 rfl ?_
  obtain ⟨u24, eu24, h⟩ := zlet_elim h
  refine z_ti eu24 ?_
  refine z_istore_n dX12_parts_97 rfl (by decide) rfl ?_
  obtain ⟨u25, eu25, h⟩ := zlet_elim h
  refine z_iinc (r := u25) dX12_parts_98 rfl (by rw [eu25, cI_1]) rfl (by decide) rfl ?_
  refine z_goto (tgt := 66) dX12_parts_101 (by decide) ?_
  cases h
  exact z_mask [true, false, false, true, true] rfl (K1 _ rfl)
set_option maxHeartbeats 4000000 in
set_option maxRecDepth 100000 in
theorem tX12_parts_l66b (T : zT) (k0 : Nat) (S : zS) (x3 : Int32) (x4 : Int32) (h0 : iX12 T k0) {g : zG} {v : Option Value} {S' : zS} (r : (Int32 × Int32) ⊕ Int32) (h : fX12_parts_l66 T k0 S x3 x4 = some r) (K1 : ∀ a : (Int32 × Int32), r = .inl a → zg g 7 mX12_parts T 66 [some (.ref k0), none, none, some (.int a.1), some (.int a.2)] [] T S v T S') (K2_0 : ∀ e : Int32, r = .inr e → zg g 7 mX12_parts T 104 [none, none, none, some (.int e), none] [] T S v T S') : zg g 7 mX12_parts T 66 [some (.ref k0), none, none, some (.int x3), some (.int x4)] [] T S v T S' := by
  unfold fX12_parts_l66 at h
  refine z_iload dX12_parts_66 rfl ?_
  refine z_bipush dX12_parts_68 cB_8 ?_
  refine z_icmp_ge (tgt := 104) dX12_parts_70 (by decide) (fun q20 => ?_) (fun q20 => ?_)
  · rw [if_pos q20] at h
    cases h
    exact z_mask [false, false, false, true, false] rfl (K2_0 _ rfl)
  · rw [if_neg q20] at h
    refine z_iload_n dX12_parts_73 rfl ?_
    refine z_aload_n dX12_parts_74 rfl ?_
    refine z_gA (zF.x zfX12_127) h0.1 dX12_parts_75 ?_
    refine z_iload dX12_parts_78 rfl ?_
    obtain ⟨q21, h⟩ := zgd_elim h
    refine z_iald h0.2.2.2.2.2.2.2.2.2.2.2.2.2.2.2.2.2.2.2.2.2.2.2.2.2.2.2.2.2.2.2.2.2.2.2.2.2.2.2.1 (zin_ok q21) dX12_parts_80 ?_
    refine z_aload_n dX12_parts_81 rfl ?_
    refine z_gA (zF.x zfX12_124) h0.1 dX12_parts_82 ?_
    refine z_iload dX12_parts_85 rfl ?_
    obtain ⟨q22, h⟩ := zgd_elim h
    refine z_iald h0.2.2.2.2.2.2.2.2.2.2.2.2.2.2.2.2.2.2.2.2.2.2.2.2.2.2.2.2.2.2.2.2.2.2.2.2.2.2.1 (zin_ok q22) dX12_parts_87 ?_
    refine z_icmp_eq (tgt := 95) dX12_parts_88 (by decide) (fun q23 => ?_) (fun q23 => ?_)
    · rw [if_pos q23] at h
      refine z_iconst dX12_parts_95 cI_0 ?_
      exact z_mask [true, false, false, false, true] rfl (tX12_parts_b96 T k0 x4 0 x3 S h0 r h K1 K2_0)
    · rw [if_neg q23] at h
      refine z_iconst dX12_parts_91 cI_1 ?_
      refine z_goto (tgt := 96) dX12_parts_92 (by decide) ?_
      exact z_mask [true, false, false, false, true] rfl (tX12_parts_b96 T k0 x4 1 x3 S h0 r h K1 K2_0)
set_option maxHeartbeats 4000000 in
set_option maxRecDepth 100000 in
theorem tX12_parts_l66 (T : zT) (k0 : Nat) (S : zS) (h0 : iX12 T k0) {g : zG} {v : Option Value} {S' : zS} : ∀ (n : Nat) (a : (Int32 × Int32)) (e : Int32), lpn (fun a => fX12_parts_l66 T k0 S a.1 a.2) n a = some e → (∀ e1 : Int32, e = e1 → zg g 7 mX12_parts T 104 [none, none, none, some (.int e1), none] [] T S v T S') → zg g 7 mX12_parts T 66 [some (.ref k0), none, none, some (.int a.1), some (.int a.2)] [] T S v T S' := by
  intro n
  induction n with
  | zero =>
    intro a e h
    cases h
  | succ n ih =>
    intro a e h k0_
    rcases lpn_succ h with ⟨a1, ha_, hb_⟩ | ha_
    · exact tX12_parts_l66b T k0 S a.1 a.2 h0 _ ha_ (fun a2 q => by cases q; exact ih a1 e hb_ k0_) (fun e1 q => by cases q)
    · exact tX12_parts_l66b T k0 S a.1 a.2 h0 _ ha_ (fun a2 q => by cases q) (fun e1 q => by cases q; exact k0_ _ rfl)
set_option maxHeartbeats 4000000 in
set_option maxRecDepth 100000 in
theorem tX12_parts (T : zT) (k0 : Nat) (x1 : Int32) (x2 : Int32) (S : zS) (h0 : iX12 T k0) (r : Int32 × zS) (h : fX12_parts T k0 x1 x2 S = some r) : zGM 7 mX12_parts [.ref k0, .int x1, .int x2] T S (some (.int r.1)) T r.2 := by
  refine zGM_of zpnX12 rfl (Nat.le_of_ble_eq_true rfl) (fun g => ?_)
  show zg g 7 mX12_parts T 0 [some (.ref k0), some (.int x1), some (.int x2), none, none] [] T S (some (.int r.1)) T r.2
  unfold fX12_parts at h
  refine z_aload_n dX12_parts_0 rfl ?_
  refine z_iload_n dX12_parts_1 rfl ?_
  obtain ⟨r1, hc2, h⟩ := zb1_elim h
  refine z_callV (As := [.int x1]) zcX12 zkX12_537 ziX12_isRule zqX12_isRule h0.1 (tX12_isRule T k0 x1 S h0 r1 hc2) rfl rfl (Nat.le_of_ble_eq_true rfl) (by decide) ⟨Nat.le_refl _, Nat.le_refl _⟩ ⟨Nat.le_refl _, Nat.le_refl _⟩ dX12_parts_2 ?_
  refine z_if_eq (tgt := 21) dX12_parts_5 (by decide) (fun q3 => ?_) (fun q3 => ?_)
  · rw [if_pos q3] at h
    exact z_mask [false, false, false, false, false] rfl (tX12_parts_b21 T  S  r h)
  · rw [if_neg q3] at h
    refine z_aload_n dX12_parts_8 rfl ?_
    refine z_iload_n dX12_parts_9 rfl ?_
    obtain ⟨r4, hc5, h⟩ := zb1_elim h
    refine z_callV (As := [.int x2]) zcX12 zkX12_537 ziX12_isRule zqX12_isRule h0.1 (tX12_isRule T k0 x2 S h0 r4 hc5) rfl rfl (Nat.le_of_ble_eq_true rfl) (by decide) ⟨Nat.le_refl _, Nat.le_refl _⟩ ⟨Nat.le_refl _, Nat.le_refl _⟩ dX12_parts_10 ?_
    refine z_if_eq (tgt := 21) dX12_parts_13 (by decide) (fun q6 => ?_) (fun q6 => ?_)
    · rw [if_pos q6] at h
      exact z_mask [false, false, false, false, false] rfl (tX12_parts_b21 T  S  r h)
    · rw [if_neg q6] at h
      refine z_iload_n dX12_parts_16 rfl ?_
      refine z_iload_n dX12_parts_17 rfl ?_
      refine z_icmp_ne (tgt := 23) dX12_parts_18 (by decide) (fun q7 => ?_) (fun q7 => ?_)
      · rw [if_neg q7] at h
        refine z_aload_n dX12_parts_23 rfl ?_
        refine z_iload_n dX12_parts_24 rfl ?_
        refine z_iconst dX12_parts_25 cI_0 ?_
        obtain ⟨r8, S10, hc9, h⟩ := zb_elim h
        refine z_callV (As := [.int x2, .int 0]) zcX12 zkX12_554 ziX12_follows zqX12_follows h0.1 (tX12_follows T k0 x2 0 S h0 (r8, S10) hc9) rfl rfl (Nat.le_of_ble_eq_true rfl) (by decide) ⟨Nat.le_refl _, Nat.le_refl _⟩ ⟨Nat.le_refl _, Nat.le_refl _⟩ dX12_parts_26 ?_
        refine z_iconst dX12_parts_29 cI_0 ?_
        refine z_istore_n dX12_parts_30 rfl (by decide) rfl ?_
        obtain ⟨e16, hl29, h⟩ := zb1_elim h
        obtain ⟨nf30, hl29⟩ := lp_some hl29
        refine z_mask [true, true, false, true, false] rfl (tX12_parts_l31 T k0 x1 h0 nf30 (0, S10) e16 hl29 (fun e_ q => ?_))
        · cases q
          refine z_aload_n dX12_parts_55 rfl ?_
          refine z_iload_n dX12_parts_56 rfl ?_
          refine z_iconst dX12_parts_57 cI_0 ?_
          obtain ⟨r17, S19, hc18, h⟩ := zb_elim h
          refine z_callV (As := [.int x1, .int 0]) zcX12 zkX12_554 ziX12_follows zqX12_follows h0.1 (tX12_follows T k0 x1 0 e16 h0 (r17, S19) hc18) rfl rfl (Nat.le_of_ble_eq_true rfl) (by decide) ⟨Nat.le_refl _, Nat.le_refl _⟩ ⟨Nat.le_refl _, Nat.le_refl _⟩ dX12_parts_58 ?_
          refine z_iconst dX12_parts_61 cI_0 ?_
          refine z_istore_n dX12_parts_62 rfl (by decide) rfl ?_
          refine z_iconst dX12_parts_63 cI_0 ?_
          refine z_istore dX12_parts_64 rfl (by decide) rfl ?_
          obtain ⟨e26, hl27, h⟩ := zb1_elim h
          obtain ⟨nf28, hl27⟩ := lp_some hl27
          refine z_mask [true, false, false, true, true] rfl (tX12_parts_l66 T k0 S19 h0 nf28 (0, 0) e26 hl27 (fun e_ q => ?_))
          · cases q
            refine z_iload_n dX12_parts_104 rfl ?_
            cases h
            exact z_iret rfl dX12_parts_105
      · rw [if_pos q7] at h
        exact z_mask [false, false, false, false, false] rfl (tX12_parts_b21 T  S  r h)
/-! X12_goes -/
noncomputable def fX12_goes_b24 (T : zT)  (S : zS) : Option (Int32 × zS) :=
  some ((-1), S)
noncomputable def fX12_goes_b77 (T : zT) (k0 : Nat) (x1 : Int32) (x3 : Int32) (x5 : Int32) (s0 : Int32) (s1 : Int32) (S : zS) : Option ((Int32 × Int32 × zS) ⊕ (Int32 × zS)) :=
  zlet (s1 + s0) fun u14 => zlet (x5 + 1) fun u15 => some (.inl (u14, u15, S))
noncomputable def fX12_goes_b76 (T : zT) (k0 : Nat) (x1 : Int32) (x3 : Int32) (x5 : Int32) (s0 : Int32) (S : zS) : Option ((Int32 × Int32 × zS) ⊕ (Int32 × zS)) :=
  fX12_goes_b77 T k0 x1 x3 x5 0 s0 S
noncomputable def fX12_goes_l38 (T : zT) (k0 : Nat) (x1 : Int32) (x3 : Int32) (x4 : Int32) (x5 : Int32) (S : zS) : Option ((Int32 × Int32 × zS) ⊕ (Int32 × zS)) :=
  if x3 ≤ x5 then some (.inr (x4, S)) else zb (fX12_follows T k0 x1 1 S) fun _ S12 => if (S12.1 k0 50) = (-1) then zb1 (fX12_placed T k0 1 S12) fun r16 => zb1 (fX12_all T k0 S12) fun r18 => if r16 = r18 then fX12_goes_b77 T k0 x1 x3 x5 1 x4 S12 else fX12_goes_b76 T k0 x1 x3 x5 x4 S12 else fX12_goes_b76 T k0 x1 x3 x5 x4 S12
noncomputable def fX12_goes (T : zT) (k0 : Nat) (x1 : Int32) (x2 : Int32) (x3 : Int32) (S : zS) : Option (Int32 × zS) :=
  zb1 (fX12_isRule T k0 x1 S) fun r1 => if r1 = 0 then fX12_goes_b24 T  S else if x2 < 0 then fX12_goes_b24 T  S else zb1 (fX12_in T ((x3 : Int32).toInt64) 1 100 S) fun r5 => if r5 = 0 then fX12_goes_b24 T  S else zlet (zJ S k0 52 ((x2 : Int32).toInt64)) fun S8 => zb1 (lp (fun a => fX12_goes_l38 T k0 x1 x3 a.1 a.2.1 a.2.2) (0, 0, S8)) fun e21 => some (e21.1, e21.2)
set_option maxHeartbeats 4000000 in
set_option maxRecDepth 100000 in
theorem tX12_goes_b24 (T : zT)  (S : zS)  {g : zG} (r : (Int32 × zS)) (h : fX12_goes_b24 T  S = some r)  : zg g 7 mX12_goes T 24 [none, none, none, none, none, none] [] T S (some (.int r.1)) T r.2 := by
  unfold fX12_goes_b24 at h
  refine z_iconst dX12_goes_24 cI_m1 ?_
  cases h
  exact z_iret rfl dX12_goes_25
set_option maxHeartbeats 4000000 in
set_option maxRecDepth 100000 in
theorem tX12_goes_b77 (T : zT) (k0 : Nat) (x1 : Int32) (x3 : Int32) (x5 : Int32) (s0 : Int32) (s1 : Int32) (S : zS) (h0 : iX12 T k0) {g : zG} {v : Option Value} {S' : zS} (r : ((Int32 × Int32 × zS) ⊕ (Int32 × zS))) (h : fX12_goes_b77 T k0 x1 x3 x5 s0 s1 S = some r) (K1 : ∀ a : (Int32 × Int32 × zS), r = .inl a → zg g 7 mX12_goes T 38 [some (.ref k0), some (.int x1), none, some (.int x3), some (.int a.1), some (.int a.2.1)] [] T a.2.2 v T S') (K2_0 : ∀ e : (Int32 × zS), r = .inr e → zg g 7 mX12_goes T 86 [none, none, none, none, some (.int e.1), none] [] T e.2 v T S') : zg g 7 mX12_goes T 77 [some (.ref k0), some (.int x1), none, some (.int x3), none, some (.int x5)] [.int s0, .int s1] T S v T S' := by
  unfold fX12_goes_b77 at h
  refine z_iadd dX12_goes_77 rfl ?_
  obtain ⟨u14, eu14, h⟩ := zlet_elim h
  refine z_ti eu14 ?_
  refine z_istore dX12_goes_78 rfl (by decide) rfl ?_
  obtain ⟨u15, eu15, h⟩ := zlet_elim h
  refine z_iinc (r := u15) dX12_goes_80 rfl (by rw [eu15, cI_1]) rfl (by decide) rfl ?_
  refine z_goto (tgt := 38) dX12_goes_83 (by decide) ?_
  cases h
  exact z_mask [true, true, false, true, true, true] rfl (K1 _ rfl)
set_option maxHeartbeats 4000000 in
set_option maxRecDepth 100000 in
theorem tX12_goes_b76 (T : zT) (k0 : Nat) (x1 : Int32) (x3 : Int32) (x5 : Int32) (s0 : Int32) (S : zS) (h0 : iX12 T k0) {g : zG} {v : Option Value} {S' : zS} (r : ((Int32 × Int32 × zS) ⊕ (Int32 × zS))) (h : fX12_goes_b76 T k0 x1 x3 x5 s0 S = some r) (K1 : ∀ a : (Int32 × Int32 × zS), r = .inl a → zg g 7 mX12_goes T 38 [some (.ref k0), some (.int x1), none, some (.int x3), some (.int a.1), some (.int a.2.1)] [] T a.2.2 v T S') (K2_0 : ∀ e : (Int32 × zS), r = .inr e → zg g 7 mX12_goes T 86 [none, none, none, none, some (.int e.1), none] [] T e.2 v T S') : zg g 7 mX12_goes T 76 [some (.ref k0), some (.int x1), none, some (.int x3), none, some (.int x5)] [.int s0] T S v T S' := by
  unfold fX12_goes_b76 at h
  refine z_iconst dX12_goes_76 cI_0 ?_
  exact z_mask [true, true, false, true, false, true] rfl (tX12_goes_b77 T k0 x1 x3 x5 0 s0 S h0 r h K1 K2_0)
set_option maxHeartbeats 4000000 in
set_option maxRecDepth 100000 in
theorem tX12_goes_l38b (T : zT) (k0 : Nat) (x1 : Int32) (x3 : Int32) (x4 : Int32) (x5 : Int32) (S : zS) (h0 : iX12 T k0) {g : zG} {v : Option Value} {S' : zS} (r : (Int32 × Int32 × zS) ⊕ (Int32 × zS)) (h : fX12_goes_l38 T k0 x1 x3 x4 x5 S = some r) (K1 : ∀ a : (Int32 × Int32 × zS), r = .inl a → zg g 7 mX12_goes T 38 [some (.ref k0), some (.int x1), none, some (.int x3), some (.int a.1), some (.int a.2.1)] [] T a.2.2 v T S') (K2_0 : ∀ e : (Int32 × zS), r = .inr e → zg g 7 mX12_goes T 86 [none, none, none, none, some (.int e.1), none] [] T e.2 v T S') : zg g 7 mX12_goes T 38 [some (.ref k0), some (.int x1), none, some (.int x3), some (.int x4), some (.int x5)] [] T S v T S' := by
  unfold fX12_goes_l38 at h
  refine z_iload dX12_goes_38 rfl ?_
  refine z_iload_n dX12_goes_40 rfl ?_
  refine z_icmp_ge (tgt := 86) dX12_goes_41 (by decide) (fun q9 => ?_) (fun q9 => ?_)
  · rw [if_pos q9] at h
    cases h
    exact z_mask [false, false, false, false, true, false] rfl (K2_0 _ rfl)
  · rw [if_neg q9] at h
    refine z_aload_n dX12_goes_44 rfl ?_
    refine z_iload_n dX12_goes_45 rfl ?_
    refine z_iconst dX12_goes_46 cI_1 ?_
    obtain ⟨r10, S12, hc11, h⟩ := zb_elim h
    refine z_callV (As := [.int x1, .int 1]) zcX12 zkX12_554 ziX12_follows zqX12_follows h0.1 (tX12_follows T k0 x1 1 S h0 (r10, S12) hc11) rfl rfl (Nat.le_of_ble_eq_true rfl) (by decide) ⟨Nat.le_refl _, Nat.le_refl _⟩ ⟨Nat.le_refl _, Nat.le_refl _⟩ dX12_goes_47 ?_
    refine z_iload dX12_goes_50 rfl ?_
    refine z_aload_n dX12_goes_52 rfl ?_
    refine z_gI (zF.x zfX12_411) h0.1 dX12_goes_53 ?_
    refine z_iconst dX12_goes_56 cI_m1 ?_
    refine z_icmp_ne (tgt := 76) dX12_goes_57 (by decide) (fun q13 => ?_) (fun q13 => ?_)
    · rw [if_neg q13] at h
      exact z_mask [true, true, false, true, false, true] rfl (tX12_goes_b76 T k0 x1 x3 x5 x4 S12 h0 r h K1 K2_0)
    · rw [if_pos q13] at h
      refine z_aload_n dX12_goes_60 rfl ?_
      refine z_iconst dX12_goes_61 cI_1 ?_
      obtain ⟨r16, hc17, h⟩ := zb1_elim h
      refine z_callV (As := [.int 1]) zcX12 zkX12_420 ziX12_placed zqX12_placed h0.1 (tX12_placed T k0 1 S12 h0 r16 hc17) rfl rfl (Nat.le_of_ble_eq_true rfl) (by decide) ⟨Nat.le_refl _, Nat.le_refl _⟩ ⟨Nat.le_refl _, Nat.le_refl _⟩ dX12_goes_62 ?_
      refine z_aload_n dX12_goes_65 rfl ?_
      obtain ⟨r18, hc19, h⟩ := zb1_elim h
      refine z_callV (As := []) zcX12 zkX12_354 ziX12_all zqX12_all h0.1 (tX12_all T k0 S12 h0 r18 hc19) rfl rfl (Nat.le_of_ble_eq_true rfl) (by decide) ⟨Nat.le_refl _, Nat.le_refl _⟩ ⟨Nat.le_refl _, Nat.le_refl _⟩ dX12_goes_66 ?_
      refine z_icmp_ne (tgt := 76) dX12_goes_69 (by decide) (fun q20 => ?_) (fun q20 => ?_)
      · rw [if_neg q20] at h
        exact z_mask [true, true, false, true, false, true] rfl (tX12_goes_b76 T k0 x1 x3 x5 x4 S12 h0 r h K1 K2_0)
      · rw [if_pos q20] at h
        refine z_iconst dX12_goes_72 cI_1 ?_
        refine z_goto (tgt := 77) dX12_goes_73 (by decide) ?_
        exact z_mask [true, true, false, true, false, true] rfl (tX12_goes_b77 T k0 x1 x3 x5 1 x4 S12 h0 r h K1 K2_0)
set_option maxHeartbeats 4000000 in
set_option maxRecDepth 100000 in
theorem tX12_goes_l38 (T : zT) (k0 : Nat) (x1 : Int32) (x3 : Int32) (h0 : iX12 T k0) {g : zG} {v : Option Value} {S' : zS} : ∀ (n : Nat) (a : (Int32 × Int32 × zS)) (e : (Int32 × zS)), lpn (fun a => fX12_goes_l38 T k0 x1 x3 a.1 a.2.1 a.2.2) n a = some e → (∀ e1 : (Int32 × zS), e = e1 → zg g 7 mX12_goes T 86 [none, none, none, none, some (.int e1.1), none] [] T e1.2 v T S') → zg g 7 mX12_goes T 38 [some (.ref k0), some (.int x1), none, some (.int x3), some (.int a.1), some (.int a.2.1)] [] T a.2.2 v T S' := by
  intro n
  induction n with
  | zero =>
    intro a e h
    cases h
  | succ n ih =>
    intro a e h k0_
    rcases lpn_succ h with ⟨a1, ha_, hb_⟩ | ha_
    · exact tX12_goes_l38b T k0 x1 x3 a.1 a.2.1 a.2.2 h0 _ ha_ (fun a2 q => by cases q; exact ih a1 e hb_ k0_) (fun e1 q => by cases q)
    · exact tX12_goes_l38b T k0 x1 x3 a.1 a.2.1 a.2.2 h0 _ ha_ (fun a2 q => by cases q) (fun e1 q => by cases q; exact k0_ _ rfl)
set_option maxHeartbeats 4000000 in
set_option maxRecDepth 100000 in
theorem tX12_goes (T : zT) (k0 : Nat) (x1 : Int32) (x2 : Int32) (x3 : Int32) (S : zS) (h0 : iX12 T k0) (r : Int32 × zS) (h : fX12_goes T k0 x1 x2 x3 S = some r) : zGM 7 mX12_goes [.ref k0, .int x1, .int x2, .int x3] T S (some (.int r.1)) T r.2 := by
  refine zGM_of zpnX12 rfl (Nat.le_of_ble_eq_true rfl) (fun g => ?_)
  show zg g 7 mX12_goes T 0 [some (.ref k0), some (.int x1), some (.int x2), some (.int x3), none, none] [] T S (some (.int r.1)) T r.2
  unfold fX12_goes at h
  refine z_aload_n dX12_goes_0 rfl ?_
  refine z_iload_n dX12_goes_1 rfl ?_
  obtain ⟨r1, hc2, h⟩ := zb1_elim h
  refine z_callV (As := [.int x1]) zcX12 zkX12_537 ziX12_isRule zqX12_isRule h0.1 (tX12_isRule T k0 x1 S h0 r1 hc2) rfl rfl (Nat.le_of_ble_eq_true rfl) (by decide) ⟨Nat.le_refl _, Nat.le_refl _⟩ ⟨Nat.le_refl _, Nat.le_refl _⟩ dX12_goes_2 ?_
  refine z_if_eq (tgt := 24) dX12_goes_5 (by decide) (fun q3 => ?_) (fun q3 => ?_)
  · rw [if_pos q3] at h
    exact z_mask [false, false, false, false, false, false] rfl (tX12_goes_b24 T  S  r h)
  · rw [if_neg q3] at h
    refine z_iload_n dX12_goes_8 rfl ?_
    refine z_if_lt (tgt := 24) dX12_goes_9 (by decide) (fun q4 => ?_) (fun q4 => ?_)
    · rw [if_pos q4] at h
      exact z_mask [false, false, false, false, false, false] rfl (tX12_goes_b24 T  S  r h)
    · rw [if_neg q4] at h
      refine z_iload_n dX12_goes_12 rfl ?_
      refine z_i2l dX12_goes_13 rfl ?_
      refine z_lconst (r := 1) dX12_goes_14 rfl ?_
      refine z_ldc2 znX12_457 dX12_goes_15 ?_
      obtain ⟨r5, hc6, h⟩ := zb1_elim h
      refine z_callS (As := [.long ((x3 : Int32).toInt64), .long 1, .long 100]) zkX12_201 zsX12_in (tX12_in T ((x3 : Int32).toInt64) 1 100 S  r5 hc6) rfl rfl (Nat.le_of_ble_eq_true rfl) (by decide) ⟨Nat.le_refl _, Nat.le_refl _⟩ ⟨Nat.le_refl _, Nat.le_refl _⟩ dX12_goes_18 ?_
      refine z_if_ne (tgt := 26) dX12_goes_21 (by decide) (fun q7 => ?_) (fun q7 => ?_)
      · rw [if_neg q7] at h
        refine z_aload_n dX12_goes_26 rfl ?_
        refine z_iload_n dX12_goes_27 rfl ?_
        refine z_i2l dX12_goes_28 rfl ?_
        refine z_putJ zfX12_423 h0.1 dX12_goes_29 ?_
        obtain ⟨S8, eS8, h⟩ := zlet_elim h
        refine z_tS eS8 ?_
        refine z_iconst dX12_goes_32 cI_0 ?_
        refine z_istore dX12_goes_33 rfl (by decide) rfl ?_
        refine z_iconst dX12_goes_35 cI_0 ?_
        refine z_istore dX12_goes_36 rfl (by decide) rfl ?_
        obtain ⟨e21, hl22, h⟩ := zb1_elim h
        obtain ⟨nf23, hl22⟩ := lp_some hl22
        refine z_mask [true, true, false, true, true, true] rfl (tX12_goes_l38 T k0 x1 x3 h0 nf23 (0, 0, S8) e21 hl22 (fun e_ q => ?_))
        · cases q
          refine z_iload dX12_goes_86 rfl ?_
          cases h
          exact z_iret rfl dX12_goes_88
      · rw [if_pos q7] at h
        exact z_mask [false, false, false, false, false, false] rfl (tX12_goes_b24 T  S  r h)
/-! X12_compared -/
noncomputable def fX12_compared_b139 (T : zT) (s0 : Int32) (s1 : Nat) (S : zS) : Option (Unit × zS) :=
  zb (fX12_entry T s1 s0 0 S) fun _ S22 => some ((), S22)
noncomputable def fX12_compared_b90 (T : zT) (k0 : Nat) (x1 : Int32) (x2 : Int32) (s0 : Int32) (s1 : Int32) (s2 : Nat) (S : zS) : Option (Unit × zS) :=
  zlet (zI S s2 2 (s1 + s0)) fun S13 => zb (fX12_sum T k0 S13) fun _ S16 => if x1 = 61 then fX12_compared_b139 T 6 k0 S16 else if x1 = 60 then if x2 = 0 then fX12_compared_b139 T 4 k0 S16 else fX12_compared_b139 T 5 k0 S16 else if x2 = 0 then fX12_compared_b139 T 8 k0 S16 else fX12_compared_b139 T 7 k0 S16
noncomputable def fX12_compared_b75 (T : zT) (k0 : Nat) (x1 : Int32) (s0 : Int32) (S : zS) : Option (Unit × zS) :=
  if s0 = 0 then fX12_compared_b90 T k0 x1 s0 0 (S.1 k0 2) k0 S else fX12_compared_b90 T k0 x1 s0 1 (S.1 k0 2) k0 S
noncomputable def fX12_compared_b74 (T : zT) (k0 : Nat) (x1 : Int32) (S : zS) : Option (Unit × zS) :=
  fX12_compared_b75 T k0 x1 0 S
noncomputable def fX12_compared_b37 (T : zT) (k0 : Nat) (x1 : Int32) (S : zS) : Option (Unit × zS) :=
  zb (fX12_isCounted T k0 (S.1 k0 2) S) fun _ S9 => zlet (zI S9 k0 2 ((S9.1 k0 2) + 1)) fun S10 => if x1 = 61 then fX12_compared_b74 T k0 x1 S10 else zb1 (fX12_sign T k0 S10) fun r24 => if r24 = 61 then fX12_compared_b75 T k0 x1 1 S10 else fX12_compared_b74 T k0 x1 S10
noncomputable def fX12_compared (T : zT) (k0 : Nat) (S : zS) : Option (Unit × zS) :=
  zb (fX12_sum T k0 S) fun _ S3 => zb1 (fX12_sign T k0 S3) fun r4 => if r4 = 60 then fX12_compared_b37 T k0 r4 S3 else if r4 = 61 then fX12_compared_b37 T k0 r4 S3 else if r4 = 62 then fX12_compared_b37 T k0 r4 S3 else zb (fX12_fails T k0 0 (S3.1 k0 2) S3) fun _ S31 => some ((), S31)
set_option maxHeartbeats 4000000 in
set_option maxRecDepth 100000 in
theorem tX12_compared_b139 (T : zT) (s0 : Int32) (s1 : Nat) (S : zS) (g1 : iX12 T s1) {g : zG} (r : (Unit × zS)) (h : fX12_compared_b139 T s0 s1 S = some r)  : zg g 8 mX12_compared T 139 [none, none, none] [.int s0, .ref s1] T S none T r.2 := by
  unfold fX12_compared_b139 at h
  refine z_iconst dX12_compared_139 cI_0 ?_
  obtain ⟨r20, S22, hc21, h⟩ := zb_elim h
  refine z_callV (As := [.int s0, .int 0]) zcX12 zkX12_242 ziX12_entry zqX12_entry g1.1 (tX12_entry T s1 s0 0 S g1 (r20, S22) hc21) rfl rfl (Nat.le_of_ble_eq_true rfl) (by decide) ⟨Nat.le_refl _, Nat.le_refl _⟩ ⟨Nat.le_refl _, Nat.le_refl _⟩ dX12_compared_140 ?_
  cases h
  exact z_vret rfl dX12_compared_143
set_option maxHeartbeats 4000000 in
set_option maxRecDepth 100000 in
theorem tX12_compared_b90 (T : zT) (k0 : Nat) (x1 : Int32) (x2 : Int32) (s0 : Int32) (s1 : Int32) (s2 : Nat) (S : zS) (h0 : iX12 T k0) (g2 : iX12 T s2) {g : zG} (r : (Unit × zS)) (h : fX12_compared_b90 T k0 x1 x2 s0 s1 s2 S = some r)  : zg g 8 mX12_compared T 90 [some (.ref k0), some (.int x1), some (.int x2)] [.int s0, .int s1, .ref s2] T S none T r.2 := by
  unfold fX12_compared_b90 at h
  refine z_iadd dX12_compared_90 rfl ?_
  refine z_putI zfX12_190 g2.1 dX12_compared_91 ?_
  obtain ⟨S13, eS13, h⟩ := zlet_elim h
  refine z_tS eS13 ?_
  refine z_aload_n dX12_compared_94 rfl ?_
  obtain ⟨r14, S16, hc15, h⟩ := zb_elim h
  refine z_callV (As := []) zcX12 zkX12_257 ziX12_sum zqX12_sum h0.1 (tX12_sum T k0 S13 h0 (r14, S16) hc15) rfl rfl (Nat.le_of_ble_eq_true rfl) (by decide) ⟨Nat.le_refl _, Nat.le_refl _⟩ ⟨Nat.le_refl _, Nat.le_refl _⟩ dX12_compared_95 ?_
  refine z_aload_n dX12_compared_98 rfl ?_
  refine z_iload_n dX12_compared_99 rfl ?_
  refine z_bipush dX12_compared_100 cB_61 ?_
  refine z_icmp_ne (tgt := 110) dX12_compared_102 (by decide) (fun q17 => ?_) (fun q17 => ?_)
  · rw [if_neg q17] at h
    refine z_iload_n dX12_compared_110 rfl ?_
    refine z_bipush dX12_compared_111 cB_60 ?_
    refine z_icmp_ne (tgt := 128) dX12_compared_113 (by decide) (fun q18 => ?_) (fun q18 => ?_)
    · rw [if_neg q18] at h
      refine z_iload_n dX12_compared_128 rfl ?_
      refine z_if_eq (tgt := 137) dX12_compared_129 (by decide) (fun q19 => ?_) (fun q19 => ?_)
      · rw [if_pos q19] at h
        refine z_bipush dX12_compared_137 cB_8 ?_
        exact z_mask [false, false, false] rfl (tX12_compared_b139 T 8 k0 S16 h0 r h)
      · rw [if_neg q19] at h
        refine z_bipush dX12_compared_132 cB_7 ?_
        refine z_goto (tgt := 139) dX12_compared_134 (by decide) ?_
        exact z_mask [false, false, false] rfl (tX12_compared_b139 T 7 k0 S16 h0 r h)
    · rw [if_pos q18] at h
      refine z_iload_n dX12_compared_116 rfl ?_
      refine z_if_eq (tgt := 124) dX12_compared_117 (by decide) (fun q23 => ?_) (fun q23 => ?_)
      · rw [if_pos q23] at h
        refine z_iconst dX12_compared_124 cI_4 ?_
        refine z_goto (tgt := 139) dX12_compared_125 (by decide) ?_
        exact z_mask [false, false, false] rfl (tX12_compared_b139 T 4 k0 S16 h0 r h)
      · rw [if_neg q23] at h
        refine z_iconst dX12_compared_120 cI_5 ?_
        refine z_goto (tgt := 139) dX12_compared_121 (by decide) ?_
        exact z_mask [false, false, false] rfl (tX12_compared_b139 T 5 k0 S16 h0 r h)
  · rw [if_pos q17] at h
    refine z_bipush dX12_compared_105 cB_6 ?_
    refine z_goto (tgt := 139) dX12_compared_107 (by decide) ?_
    exact z_mask [false, false, false] rfl (tX12_compared_b139 T 6 k0 S16 h0 r h)
set_option maxHeartbeats 4000000 in
set_option maxRecDepth 100000 in
theorem tX12_compared_b75 (T : zT) (k0 : Nat) (x1 : Int32) (s0 : Int32) (S : zS) (h0 : iX12 T k0) {g : zG} (r : (Unit × zS)) (h : fX12_compared_b75 T k0 x1 s0 S = some r)  : zg g 8 mX12_compared T 75 [some (.ref k0), some (.int x1), none] [.int s0] T S none T r.2 := by
  unfold fX12_compared_b75 at h
  refine z_istore_n dX12_compared_75 rfl (by decide) rfl ?_
  refine z_aload_n dX12_compared_76 rfl ?_
  refine z_dup dX12_compared_77 rfl ?_
  refine z_gI (zF.x zfX12_190) h0.1 dX12_compared_78 ?_
  refine z_iload_n dX12_compared_81 rfl ?_
  refine z_if_eq (tgt := 89) dX12_compared_82 (by decide) (fun q12 => ?_) (fun q12 => ?_)
  · rw [if_pos q12] at h
    refine z_iconst dX12_compared_89 cI_0 ?_
    exact z_mask [true, true, true] rfl (tX12_compared_b90 T k0 x1 s0 0 (S.1 k0 2) k0 S h0 h0 r h)
  · rw [if_neg q12] at h
    refine z_iconst dX12_compared_85 cI_1 ?_
    refine z_goto (tgt := 90) dX12_compared_86 (by decide) ?_
    exact z_mask [true, true, true] rfl (tX12_compared_b90 T k0 x1 s0 1 (S.1 k0 2) k0 S h0 h0 r h)
set_option maxHeartbeats 4000000 in
set_option maxRecDepth 100000 in
theorem tX12_compared_b74 (T : zT) (k0 : Nat) (x1 : Int32) (S : zS) (h0 : iX12 T k0) {g : zG} (r : (Unit × zS)) (h : fX12_compared_b74 T k0 x1 S = some r)  : zg g 8 mX12_compared T 74 [some (.ref k0), some (.int x1), none] [] T S none T r.2 := by
  unfold fX12_compared_b74 at h
  refine z_iconst dX12_compared_74 cI_0 ?_
  exact z_mask [true, true, false] rfl (tX12_compared_b75 T k0 x1 0 S h0 r h)
set_option maxHeartbeats 4000000 in
set_option maxRecDepth 100000 in
theorem tX12_compared_b37 (T : zT) (k0 : Nat) (x1 : Int32) (S : zS) (h0 : iX12 T k0) {g : zG} (r : (Unit × zS)) (h : fX12_compared_b37 T k0 x1 S = some r)  : zg g 8 mX12_compared T 37 [some (.ref k0), some (.int x1), none] [] T S none T r.2 := by
  unfold fX12_compared_b37 at h
  refine z_aload_n dX12_compared_37 rfl ?_
  refine z_aload_n dX12_compared_38 rfl ?_
  refine z_gI (zF.x zfX12_190) h0.1 dX12_compared_39 ?_
  obtain ⟨r7, S9, hc8, h⟩ := zb_elim h
  refine z_callV (As := [.int (S.1 k0 2)]) zcX12 zkX12_239 ziX12_isCounted zqX12_isCounted h0.1 (tX12_isCounted T k0 (S.1 k0 2) S h0 (r7, S9) hc8) rfl rfl (Nat.le_of_ble_eq_true rfl) (by decide) ⟨Nat.le_refl _, Nat.le_refl _⟩ ⟨Nat.le_refl _, Nat.le_refl _⟩ dX12_compared_42 ?_
  refine z_aload_n dX12_compared_45 rfl ?_
  refine z_dup dX12_compared_46 rfl ?_
  refine z_gI (zF.x zfX12_190) h0.1 dX12_compared_47 ?_
  refine z_iconst dX12_compared_50 cI_1 ?_
  refine z_iadd dX12_compared_51 rfl ?_
  refine z_putI zfX12_190 h0.1 dX12_compared_52 ?_
  obtain ⟨S10, eS10, h⟩ := zlet_elim h
  refine z_tS eS10 ?_
  refine z_iload_n dX12_compared_55 rfl ?_
  refine z_bipush dX12_compared_56 cB_61 ?_
  refine z_icmp_eq (tgt := 74) dX12_compared_58 (by decide) (fun q11 => ?_) (fun q11 => ?_)
  · rw [if_pos q11] at h
    exact z_mask [true, true, false] rfl (tX12_compared_b74 T k0 x1 S10 h0 r h)
  · rw [if_neg q11] at h
    refine z_aload_n dX12_compared_61 rfl ?_
    obtain ⟨r24, hc25, h⟩ := zb1_elim h
    refine z_callV (As := []) zcX12 zkX12_193 ziX12_sign zqX12_sign h0.1 (tX12_sign T k0 S10 h0 r24 hc25) rfl rfl (Nat.le_of_ble_eq_true rfl) (by decide) ⟨Nat.le_refl _, Nat.le_refl _⟩ ⟨Nat.le_refl _, Nat.le_refl _⟩ dX12_compared_62 ?_
    refine z_bipush dX12_compared_65 cB_61 ?_
    refine z_icmp_ne (tgt := 74) dX12_compared_67 (by decide) (fun q26 => ?_) (fun q26 => ?_)
    · rw [if_neg q26] at h
      exact z_mask [true, true, false] rfl (tX12_compared_b74 T k0 x1 S10 h0 r h)
    · rw [if_pos q26] at h
      refine z_iconst dX12_compared_70 cI_1 ?_
      refine z_goto (tgt := 75) dX12_compared_71 (by decide) ?_
      exact z_mask [true, true, false] rfl (tX12_compared_b75 T k0 x1 1 S10 h0 r h)
set_option maxHeartbeats 4000000 in
set_option maxRecDepth 100000 in
theorem tX12_compared (T : zT) (k0 : Nat) (S : zS) (h0 : iX12 T k0) (r : Unit × zS) (h : fX12_compared T k0 S = some r) : zGM 8 mX12_compared [.ref k0] T S none T r.2 := by
  refine zGM_of zpnX12 rfl (Nat.le_of_ble_eq_true rfl) (fun g => ?_)
  show zg g 8 mX12_compared T 0 [some (.ref k0), none, none] [] T S none T r.2
  unfold fX12_compared at h
  refine z_aload_n dX12_compared_0 rfl ?_
  obtain ⟨r1, S3, hc2, h⟩ := zb_elim h
  refine z_callV (As := []) zcX12 zkX12_257 ziX12_sum zqX12_sum h0.1 (tX12_sum T k0 S h0 (r1, S3) hc2) rfl rfl (Nat.le_of_ble_eq_true rfl) (by decide) ⟨Nat.le_refl _, Nat.le_refl _⟩ ⟨Nat.le_refl _, Nat.le_refl _⟩ dX12_compared_1 ?_
  refine z_aload_n dX12_compared_4 rfl ?_
  obtain ⟨r4, hc5, h⟩ := zb1_elim h
  refine z_callV (As := []) zcX12 zkX12_193 ziX12_sign zqX12_sign h0.1 (tX12_sign T k0 S3 h0 r4 hc5) rfl rfl (Nat.le_of_ble_eq_true rfl) (by decide) ⟨Nat.le_refl _, Nat.le_refl _⟩ ⟨Nat.le_refl _, Nat.le_refl _⟩ dX12_compared_5 ?_
  refine z_istore_n dX12_compared_8 rfl (by decide) rfl ?_
  refine z_iload_n dX12_compared_9 rfl ?_
  refine z_bipush dX12_compared_10 cB_60 ?_
  refine z_icmp_eq (tgt := 37) dX12_compared_12 (by decide) (fun q6 => ?_) (fun q6 => ?_)
  · rw [if_pos q6] at h
    exact z_mask [true, true, false] rfl (tX12_compared_b37 T k0 r4 S3 h0 r h)
  · rw [if_neg q6] at h
    refine z_iload_n dX12_compared_15 rfl ?_
    refine z_bipush dX12_compared_16 cB_61 ?_
    refine z_icmp_eq (tgt := 37) dX12_compared_18 (by decide) (fun q27 => ?_) (fun q27 => ?_)
    · rw [if_pos q27] at h
      exact z_mask [true, true, false] rfl (tX12_compared_b37 T k0 r4 S3 h0 r h)
    · rw [if_neg q27] at h
      refine z_iload_n dX12_compared_21 rfl ?_
      refine z_bipush dX12_compared_22 cB_62 ?_
      refine z_icmp_eq (tgt := 37) dX12_compared_24 (by decide) (fun q28 => ?_) (fun q28 => ?_)
      · rw [if_pos q28] at h
        exact z_mask [true, true, false] rfl (tX12_compared_b37 T k0 r4 S3 h0 r h)
      · rw [if_neg q28] at h
        refine z_aload_n dX12_compared_27 rfl ?_
        refine z_iconst dX12_compared_28 cI_0 ?_
        refine z_aload_n dX12_compared_29 rfl ?_
        refine z_gI (zF.x zfX12_190) h0.1 dX12_compared_30 ?_
        obtain ⟨r29, S31, hc30, h⟩ := zb_elim h
        refine z_callV (As := [.int 0, .int (S3.1 k0 2)]) zcX12 zkX12_226 ziX12_fails zqX12_fails h0.1 (tX12_fails T k0 0 (S3.1 k0 2) S3 h0 (r29, S31) hc30) rfl rfl (Nat.le_of_ble_eq_true rfl) (by decide) ⟨Nat.le_refl _, Nat.le_refl _⟩ ⟨Nat.le_refl _, Nat.le_refl _⟩ dX12_compared_33 ?_
        cases h
        exact z_vret rfl dX12_compared_36
/-! X12_hangsOn -/
noncomputable def fX12_hangsOn_b17 (T : zT) (s0 : Int32) (s1 : Int32) (S : zS) : Option (Int32 × zS) :=
  some ((s1 - s0), S)
noncomputable def fX12_hangsOn (T : zT) (k0 : Nat) (x1 : Int32) (x2 : Int32) (S : zS) : Option (Int32 × zS) :=
  zb (fX12_without T k0 x1 S) fun r1 S3 => if r1 = (-1) then fX12_hangsOn_b17 T 0 x2 S3 else fX12_hangsOn_b17 T r1 x2 S3
set_option maxHeartbeats 4000000 in
set_option maxRecDepth 100000 in
theorem tX12_hangsOn_b17 (T : zT) (s0 : Int32) (s1 : Int32) (S : zS)  {g : zG} (r : (Int32 × zS)) (h : fX12_hangsOn_b17 T s0 s1 S = some r)  : zg g 8 mX12_hangsOn T 17 [none, none, none, none] [.int s0, .int s1] T S (some (.int r.1)) T r.2 := by
  unfold fX12_hangsOn_b17 at h
  refine z_isub dX12_hangsOn_17 rfl ?_
  cases h
  exact z_iret rfl dX12_hangsOn_18
set_option maxHeartbeats 4000000 in
set_option maxRecDepth 100000 in
theorem tX12_hangsOn (T : zT) (k0 : Nat) (x1 : Int32) (x2 : Int32) (S : zS) (h0 : iX12 T k0) (r : Int32 × zS) (h : fX12_hangsOn T k0 x1 x2 S = some r) : zGM 8 mX12_hangsOn [.ref k0, .int x1, .int x2] T S (some (.int r.1)) T r.2 := by
  refine zGM_of zpnX12 rfl (Nat.le_of_ble_eq_true rfl) (fun g => ?_)
  show zg g 8 mX12_hangsOn T 0 [some (.ref k0), some (.int x1), some (.int x2), none] [] T S (some (.int r.1)) T r.2
  unfold fX12_hangsOn at h
  refine z_aload_n dX12_hangsOn_0 rfl ?_
  refine z_iload_n dX12_hangsOn_1 rfl ?_
  obtain ⟨r1, S3, hc2, h⟩ := zb_elim h
  refine z_callV (As := [.int x1]) zcX12 zkX12_515 ziX12_without zqX12_without h0.1 (tX12_without T k0 x1 S h0 (r1, S3) hc2) rfl rfl (Nat.le_of_ble_eq_true rfl) (by decide) ⟨Nat.le_refl _, Nat.le_refl _⟩ ⟨Nat.le_refl _, Nat.le_refl _⟩ dX12_hangsOn_2 ?_
  refine z_istore_n dX12_hangsOn_5 rfl (by decide) rfl ?_
  refine z_iload_n dX12_hangsOn_6 rfl ?_
  refine z_iload_n dX12_hangsOn_7 rfl ?_
  refine z_iconst dX12_hangsOn_8 cI_m1 ?_
  refine z_icmp_ne (tgt := 16) dX12_hangsOn_9 (by decide) (fun q4 => ?_) (fun q4 => ?_)
  · rw [if_neg q4] at h
    refine z_iload_n dX12_hangsOn_16 rfl ?_
    exact z_mask [false, false, false, false] rfl (tX12_hangsOn_b17 T r1 x2 S3  r h)
  · rw [if_pos q4] at h
    refine z_iconst dX12_hangsOn_12 cI_0 ?_
    refine z_goto (tgt := 17) dX12_hangsOn_13 (by decide) ?_
    exact z_mask [false, false, false, false] rfl (tX12_hangsOn_b17 T 0 x2 S3  r h)
/-! X12_wise -/
noncomputable def fX12_wise_b69 (T : zT) (s0 : Int32) (S : zS) : Option (Int32 × zS) :=
  some (s0, S)
noncomputable def fX12_wise_b60 (T : zT)  (S : zS) : Option (Int32 × zS) :=
  fX12_wise_b69 T (-1000000) S
noncomputable def fX12_wise (T : zT) (k0 : Nat) (x1 : Int32) (S : zS) : Option (Int32 × zS) :=
  zb1 (fX12_has T k0 x1 S) fun r1 => if r1 = 0 then some ((-2000000), S) else zb (fX12_asBest T k0 S) fun r4 S6 => zb (fX12_asItIs T k0 S6) fun _ S9 => zlet (zI S9 k0 55 (1 <<< (x1 &&& 31))) fun S10 => zgd (zin 0 2) (zgd (zin x1 16) (zlet (zI S10 k0 59 ((S10.1 (zr T k0 32) (0 : Int32).toNatClampNeg) - (S10.1 (zr T k0 23) (x1 : Int32).toNatClampNeg))) fun S13 => zb (fX12_mostCoin T k0 S13) fun r14 S16 => if r4 = (-1) then fX12_wise_b60 T  S16 else if r14 = (-1) then fX12_wise_b60 T  S16 else fX12_wise_b69 T (r4 - r14) S16))
set_option maxHeartbeats 4000000 in
set_option maxRecDepth 100000 in
theorem tX12_wise_b69 (T : zT) (s0 : Int32) (S : zS)  {g : zG} (r : (Int32 × zS)) (h : fX12_wise_b69 T s0 S = some r)  : zg g 8 mX12_wise T 69 [none, none, none, none] [.int s0] T S (some (.int r.1)) T r.2 := by
  unfold fX12_wise_b69 at h
  cases h
  exact z_iret rfl dX12_wise_69
set_option maxHeartbeats 4000000 in
set_option maxRecDepth 100000 in
theorem tX12_wise_b60 (T : zT)  (S : zS)  {g : zG} (r : (Int32 × zS)) (h : fX12_wise_b60 T  S = some r)  : zg g 8 mX12_wise T 60 [none, none, none, none] [] T S (some (.int r.1)) T r.2 := by
  unfold fX12_wise_b60 at h
  refine z_ldcw znX12_525 dX12_wise_60 ?_
  refine z_goto (tgt := 69) dX12_wise_63 (by decide) ?_
  exact z_mask [false, false, false, false] rfl (tX12_wise_b69 T (-1000000) S  r h)
set_option maxHeartbeats 4000000 in
set_option maxRecDepth 100000 in
theorem tX12_wise (T : zT) (k0 : Nat) (x1 : Int32) (S : zS) (h0 : iX12 T k0) (r : Int32 × zS) (h : fX12_wise T k0 x1 S = some r) : zGM 8 mX12_wise [.ref k0, .int x1] T S (some (.int r.1)) T r.2 := by
  refine zGM_of zpnX12 rfl (Nat.le_of_ble_eq_true rfl) (fun g => ?_)
  show zg g 8 mX12_wise T 0 [some (.ref k0), some (.int x1), none, none] [] T S (some (.int r.1)) T r.2
  unfold fX12_wise at h
  refine z_aload_n dX12_wise_0 rfl ?_
  refine z_iload_n dX12_wise_1 rfl ?_
  obtain ⟨r1, hc2, h⟩ := zb1_elim h
  refine z_callV (As := [.int x1]) zcX12 zkX12_375 ziX12_has zqX12_has h0.1 (tX12_has T k0 x1 S h0 r1 hc2) rfl rfl (Nat.le_of_ble_eq_true rfl) (by decide) ⟨Nat.le_refl _, Nat.le_refl _⟩ ⟨Nat.le_refl _, Nat.le_refl _⟩ dX12_wise_2 ?_
  refine z_if_ne (tgt := 12) dX12_wise_5 (by decide) (fun q3 => ?_) (fun q3 => ?_)
  · rw [if_neg q3] at h
    refine z_aload_n dX12_wise_12 rfl ?_
    obtain ⟨r4, S6, hc5, h⟩ := zb_elim h
    refine z_callV (As := []) zcX12 zkX12_518 ziX12_asBest zqX12_asBest h0.1 (tX12_asBest T k0 S h0 (r4, S6) hc5) rfl rfl (Nat.le_of_ble_eq_true rfl) (by decide) ⟨Nat.le_refl _, Nat.le_refl _⟩ ⟨Nat.le_refl _, Nat.le_refl _⟩ dX12_wise_13 ?_
    refine z_istore_n dX12_wise_16 rfl (by decide) rfl ?_
    refine z_aload_n dX12_wise_17 rfl ?_
    obtain ⟨r7, S9, hc8, h⟩ := zb_elim h
    refine z_callV (As := []) zcX12 zkX12_497 ziX12_asItIs zqX12_asItIs h0.1 (tX12_asItIs T k0 S6 h0 (r7, S9) hc8) rfl rfl (Nat.le_of_ble_eq_true rfl) (by decide) ⟨Nat.le_refl _, Nat.le_refl _⟩ ⟨Nat.le_refl _, Nat.le_refl _⟩ dX12_wise_18 ?_
    refine z_aload_n dX12_wise_21 rfl ?_
    refine z_iconst dX12_wise_22 cI_1 ?_
    refine z_iload_n dX12_wise_23 rfl ?_
    refine z_ishl dX12_wise_24 rfl ?_
    refine z_putI zfX12_464 h0.1 dX12_wise_25 ?_
    obtain ⟨S10, eS10, h⟩ := zlet_elim h
    refine z_tS eS10 ?_
    refine z_aload_n dX12_wise_28 rfl ?_
    refine z_aload_n dX12_wise_29 rfl ?_
    refine z_gA (zF.x zfX12_74) h0.1 dX12_wise_30 ?_
    refine z_iconst dX12_wise_33 cI_0 ?_
    obtain ⟨q11, h⟩ := zgd_elim h
    refine z_iald h0.2.2.2.2.2.2.2.2.2.2.2.2.2.2.2.2.2.2.2.2.2.2.1 (zin_ok q11) dX12_wise_34 ?_
    refine z_aload_n dX12_wise_35 rfl ?_
    refine z_gA (zF.x zfX12_47) h0.1 dX12_wise_36 ?_
    refine z_iload_n dX12_wise_39 rfl ?_
    obtain ⟨q12, h⟩ := zgd_elim h
    refine z_iald h0.2.2.2.2.2.2.2.2.2.2.2.2.2.1 (zin_ok q12) dX12_wise_40 ?_
    refine z_isub dX12_wise_41 rfl ?_
    refine z_putI zfX12_476 h0.1 dX12_wise_42 ?_
    obtain ⟨S13, eS13, h⟩ := zlet_elim h
    refine z_tS eS13 ?_
    refine z_aload_n dX12_wise_45 rfl ?_
    obtain ⟨r14, S16, hc15, h⟩ := zb_elim h
    refine z_callV (As := []) zcX12 zkX12_502 ziX12_mostCoin zqX12_mostCoin h0.1 (tX12_mostCoin T k0 S13 h0 (r14, S16) hc15) rfl rfl (Nat.le_of_ble_eq_true rfl) (by decide) ⟨Nat.le_refl _, Nat.le_refl _⟩ ⟨Nat.le_refl _, Nat.le_refl _⟩ dX12_wise_46 ?_
    refine z_istore_n dX12_wise_49 rfl (by decide) rfl ?_
    refine z_iload_n dX12_wise_50 rfl ?_
    refine z_iconst dX12_wise_51 cI_m1 ?_
    refine z_icmp_eq (tgt := 60) dX12_wise_52 (by decide) (fun q17 => ?_) (fun q17 => ?_)
    · rw [if_pos q17] at h
      exact z_mask [false, false, false, false] rfl (tX12_wise_b60 T  S16  r h)
    · rw [if_neg q17] at h
      refine z_iload_n dX12_wise_55 rfl ?_
      refine z_iconst dX12_wise_56 cI_m1 ?_
      refine z_icmp_ne (tgt := 66) dX12_wise_57 (by decide) (fun q18 => ?_) (fun q18 => ?_)
      · rw [if_neg q18] at h
        refine z_iload_n dX12_wise_66 rfl ?_
        refine z_iload_n dX12_wise_67 rfl ?_
        refine z_isub dX12_wise_68 rfl ?_
        exact z_mask [false, false, false, false] rfl (tX12_wise_b69 T (r4 - r14) S16  r h)
      · rw [if_pos q18] at h
        exact z_mask [false, false, false, false] rfl (tX12_wise_b60 T  S16  r h)
  · rw [if_pos q3] at h
    refine z_ldcw znX12_524 dX12_wise_8 ?_
    cases h
    exact z_iret rfl dX12_wise_11
/-! X12_borrowed -/
noncomputable def fX12_borrowed_b17 (T : zT) (s0 : Int32) (S : zS) : Option (Int32 × zS) :=
  some (s0, S)
noncomputable def fX12_borrowed (T : zT) (k0 : Nat) (x1 : Int32) (S : zS) : Option (Int32 × zS) :=
  zb1 (fX12_isOfBook T k0 x1 S) fun r1 => if r1 = 0 then fX12_borrowed_b17 T (-1) S else zb (fX12_borrowedIn T k0 x1 S) fun r4 S6 => fX12_borrowed_b17 T r4 S6
set_option maxHeartbeats 4000000 in
set_option maxRecDepth 100000 in
theorem tX12_borrowed_b17 (T : zT) (s0 : Int32) (S : zS)  {g : zG} (r : (Int32 × zS)) (h : fX12_borrowed_b17 T s0 S = some r)  : zg g 8 mX12_borrowed T 17 [none, none] [.int s0] T S (some (.int r.1)) T r.2 := by
  unfold fX12_borrowed_b17 at h
  cases h
  exact z_iret rfl dX12_borrowed_17
set_option maxHeartbeats 4000000 in
set_option maxRecDepth 100000 in
theorem tX12_borrowed (T : zT) (k0 : Nat) (x1 : Int32) (S : zS) (h0 : iX12 T k0) (r : Int32 × zS) (h : fX12_borrowed T k0 x1 S = some r) : zGM 8 mX12_borrowed [.ref k0, .int x1] T S (some (.int r.1)) T r.2 := by
  refine zGM_of zpnX12 rfl (Nat.le_of_ble_eq_true rfl) (fun g => ?_)
  show zg g 8 mX12_borrowed T 0 [some (.ref k0), some (.int x1)] [] T S (some (.int r.1)) T r.2
  unfold fX12_borrowed at h
  refine z_aload_n dX12_borrowed_0 rfl ?_
  refine z_iload_n dX12_borrowed_1 rfl ?_
  obtain ⟨r1, hc2, h⟩ := zb1_elim h
  refine z_callV (As := [.int x1]) zcX12 zkX12_526 ziX12_isOfBook zqX12_isOfBook h0.1 (tX12_isOfBook T k0 x1 S h0 r1 hc2) rfl rfl (Nat.le_of_ble_eq_true rfl) (by decide) ⟨Nat.le_refl _, Nat.le_refl _⟩ ⟨Nat.le_refl _, Nat.le_refl _⟩ dX12_borrowed_2 ?_
  refine z_if_eq (tgt := 16) dX12_borrowed_5 (by decide) (fun q3 => ?_) (fun q3 => ?_)
  · rw [if_pos q3] at h
    refine z_iconst dX12_borrowed_16 cI_m1 ?_
    exact z_mask [false, false] rfl (tX12_borrowed_b17 T (-1) S  r h)
  · rw [if_neg q3] at h
    refine z_aload_n dX12_borrowed_8 rfl ?_
    refine z_iload_n dX12_borrowed_9 rfl ?_
    obtain ⟨r4, S6, hc5, h⟩ := zb_elim h
    refine z_callV (As := [.int x1]) zcX12 zkX12_529 ziX12_borrowedIn zqX12_borrowedIn h0.1 (tX12_borrowedIn T k0 x1 S h0 (r4, S6) hc5) rfl rfl (Nat.le_of_ble_eq_true rfl) (by decide) ⟨Nat.le_refl _, Nat.le_refl _⟩ ⟨Nat.le_refl _, Nat.le_refl _⟩ dX12_borrowed_10 ?_
    refine z_goto (tgt := 17) dX12_borrowed_13 (by decide) ?_
    exact z_mask [false, false] rfl (tX12_borrowed_b17 T r4 S6  r h)
/-! X12_when -/
noncomputable def fX12_when_b45 (T : zT) (k0 : Nat) (x1 : Int32) (x2 : Int32) (x3 : Int32) (S : zS) : Option ((Int32 × Int32 × Int32 × zS) ⊕ (Int32 × zS)) :=
  zlet (x3 + 1) fun u10 => some (.inl (x1, x2, u10, S))
noncomputable def fX12_when_l10 (T : zT) (k0 : Nat) (x1 : Int32) (x2 : Int32) (x3 : Int32) (S : zS) : Option ((Int32 × Int32 × Int32 × zS) ⊕ (Int32 × zS)) :=
  zgd (zin 0 2) (if (S.1 (zr T k0 33) (0 : Int32).toNatClampNeg) ≤ x3 then some (.inr (x2, S)) else zb (fX12_borrowedIn T k0 x3 S) fun r6 S8 => if r6 = (-2) then fX12_when_b45 T k0 x1 x2 x3 S8 else if r6 ≤ x1 then fX12_when_b45 T k0 x1 x2 x3 S8 else fX12_when_b45 T k0 r6 x3 x3 S8)
noncomputable def fX12_when (T : zT) (k0 : Nat) (S : zS) : Option (Int32 × zS) :=
  zb (fX12_asBest T k0 S) fun r1 S3 => zb1 (lp (fun a => fX12_when_l10 T k0 a.1 a.2.1 a.2.2.1 a.2.2.2) (r1, (-2), 0, S3)) fun e12 => some (e12.1, e12.2)
set_option maxHeartbeats 4000000 in
set_option maxRecDepth 100000 in
theorem tX12_when_b45 (T : zT) (k0 : Nat) (x1 : Int32) (x2 : Int32) (x3 : Int32) (S : zS) (h0 : iX12 T k0) {g : zG} {v : Option Value} {S' : zS} (r : ((Int32 × Int32 × Int32 × zS) ⊕ (Int32 × zS))) (h : fX12_when_b45 T k0 x1 x2 x3 S = some r) (K1 : ∀ a : (Int32 × Int32 × Int32 × zS), r = .inl a → zg g 8 mX12_when T 10 [some (.ref k0), some (.int a.1), some (.int a.2.1), some (.int a.2.2.1), none] [] T a.2.2.2 v T S') (K2_0 : ∀ e : (Int32 × zS), r = .inr e → zg g 8 mX12_when T 51 [none, none, some (.int e.1), none, none] [] T e.2 v T S') : zg g 8 mX12_when T 45 [some (.ref k0), some (.int x1), some (.int x2), some (.int x3), none] [] T S v T S' := by
  unfold fX12_when_b45 at h
  obtain ⟨u10, eu10, h⟩ := zlet_elim h
  refine z_iinc (r := u10) dX12_when_45 rfl (by rw [eu10, cI_1]) rfl (by decide) rfl ?_
  refine z_goto (tgt := 10) dX12_when_48 (by decide) ?_
  cases h
  exact z_mask [true, true, true, true, false] rfl (K1 _ rfl)
set_option maxHeartbeats 4000000 in
set_option maxRecDepth 100000 in
theorem tX12_when_l10b (T : zT) (k0 : Nat) (x1 : Int32) (x2 : Int32) (x3 : Int32) (S : zS) (h0 : iX12 T k0) {g : zG} {v : Option Value} {S' : zS} (r : (Int32 × Int32 × Int32 × zS) ⊕ (Int32 × zS)) (h : fX12_when_l10 T k0 x1 x2 x3 S = some r) (K1 : ∀ a : (Int32 × Int32 × Int32 × zS), r = .inl a → zg g 8 mX12_when T 10 [some (.ref k0), some (.int a.1), some (.int a.2.1), some (.int a.2.2.1), none] [] T a.2.2.2 v T S') (K2_0 : ∀ e : (Int32 × zS), r = .inr e → zg g 8 mX12_when T 51 [none, none, some (.int e.1), none, none] [] T e.2 v T S') : zg g 8 mX12_when T 10 [some (.ref k0), some (.int x1), some (.int x2), some (.int x3), none] [] T S v T S' := by
  unfold fX12_when_l10 at h
  refine z_iload_n dX12_when_10 rfl ?_
  refine z_aload_n dX12_when_11 rfl ?_
  refine z_gA (zF.x zfX12_77) h0.1 dX12_when_12 ?_
  refine z_iconst dX12_when_15 cI_0 ?_
  obtain ⟨q4, h⟩ := zgd_elim h
  refine z_iald h0.2.2.2.2.2.2.2.2.2.2.2.2.2.2.2.2.2.2.2.2.2.2.2.1 (zin_ok q4) dX12_when_16 ?_
  refine z_icmp_ge (tgt := 51) dX12_when_17 (by decide) (fun q5 => ?_) (fun q5 => ?_)
  · rw [if_pos q5] at h
    cases h
    exact z_mask [false, false, true, false, false] rfl (K2_0 _ rfl)
  · rw [if_neg q5] at h
    refine z_aload_n dX12_when_20 rfl ?_
    refine z_iload_n dX12_when_21 rfl ?_
    obtain ⟨r6, S8, hc7, h⟩ := zb_elim h
    refine z_callV (As := [.int x3]) zcX12 zkX12_529 ziX12_borrowedIn zqX12_borrowedIn h0.1 (tX12_borrowedIn T k0 x3 S h0 (r6, S8) hc7) rfl rfl (Nat.le_of_ble_eq_true rfl) (by decide) ⟨Nat.le_refl _, Nat.le_refl _⟩ ⟨Nat.le_refl _, Nat.le_refl _⟩ dX12_when_22 ?_
    refine z_istore dX12_when_25 rfl (by decide) rfl ?_
    refine z_iload dX12_when_27 rfl ?_
    refine z_bipush dX12_when_29 cB_m2 ?_
    refine z_icmp_eq (tgt := 45) dX12_when_31 (by decide) (fun q9 => ?_) (fun q9 => ?_)
    · rw [if_pos q9] at h
      exact z_mask [true, true, true, true, false] rfl (tX12_when_b45 T k0 x1 x2 x3 S8 h0 r h K1 K2_0)
    · rw [if_neg q9] at h
      refine z_iload dX12_when_34 rfl ?_
      refine z_iload_n dX12_when_36 rfl ?_
      refine z_icmp_le (tgt := 45) dX12_when_37 (by decide) (fun q11 => ?_) (fun q11 => ?_)
      · rw [if_pos q11] at h
        exact z_mask [true, true, true, true, false] rfl (tX12_when_b45 T k0 x1 x2 x3 S8 h0 r h K1 K2_0)
      · rw [if_neg q11] at h
        refine z_iload_n dX12_when_40 rfl ?_
        refine z_istore_n dX12_when_41 rfl (by decide) rfl ?_
        refine z_iload dX12_when_42 rfl ?_
        refine z_istore_n dX12_when_44 rfl (by decide) rfl ?_
        exact z_mask [true, true, true, true, false] rfl (tX12_when_b45 T k0 r6 x3 x3 S8 h0 r h K1 K2_0)
set_option maxHeartbeats 4000000 in
set_option maxRecDepth 100000 in
theorem tX12_when_l10 (T : zT) (k0 : Nat) (h0 : iX12 T k0) {g : zG} {v : Option Value} {S' : zS} : ∀ (n : Nat) (a : (Int32 × Int32 × Int32 × zS)) (e : (Int32 × zS)), lpn (fun a => fX12_when_l10 T k0 a.1 a.2.1 a.2.2.1 a.2.2.2) n a = some e → (∀ e1 : (Int32 × zS), e = e1 → zg g 8 mX12_when T 51 [none, none, some (.int e1.1), none, none] [] T e1.2 v T S') → zg g 8 mX12_when T 10 [some (.ref k0), some (.int a.1), some (.int a.2.1), some (.int a.2.2.1), none] [] T a.2.2.2 v T S' := by
  intro n
  induction n with
  | zero =>
    intro a e h
    cases h
  | succ n ih =>
    intro a e h k0_
    rcases lpn_succ h with ⟨a1, ha_, hb_⟩ | ha_
    · exact tX12_when_l10b T k0 a.1 a.2.1 a.2.2.1 a.2.2.2 h0 _ ha_ (fun a2 q => by cases q; exact ih a1 e hb_ k0_) (fun e1 q => by cases q)
    · exact tX12_when_l10b T k0 a.1 a.2.1 a.2.2.1 a.2.2.2 h0 _ ha_ (fun a2 q => by cases q) (fun e1 q => by cases q; exact k0_ _ rfl)
set_option maxHeartbeats 4000000 in
set_option maxRecDepth 100000 in
theorem tX12_when (T : zT) (k0 : Nat) (S : zS) (h0 : iX12 T k0) (r : Int32 × zS) (h : fX12_when T k0 S = some r) : zGM 8 mX12_when [.ref k0] T S (some (.int r.1)) T r.2 := by
  refine zGM_of zpnX12 rfl (Nat.le_of_ble_eq_true rfl) (fun g => ?_)
  show zg g 8 mX12_when T 0 [some (.ref k0), none, none, none, none] [] T S (some (.int r.1)) T r.2
  unfold fX12_when at h
  refine z_aload_n dX12_when_0 rfl ?_
  obtain ⟨r1, S3, hc2, h⟩ := zb_elim h
  refine z_callV (As := []) zcX12 zkX12_518 ziX12_asBest zqX12_asBest h0.1 (tX12_asBest T k0 S h0 (r1, S3) hc2) rfl rfl (Nat.le_of_ble_eq_true rfl) (by decide) ⟨Nat.le_refl _, Nat.le_refl _⟩ ⟨Nat.le_refl _, Nat.le_refl _⟩ dX12_when_1 ?_
  refine z_istore_n dX12_when_4 rfl (by decide) rfl ?_
  refine z_bipush dX12_when_5 cB_m2 ?_
  refine z_istore_n dX12_when_7 rfl (by decide) rfl ?_
  refine z_iconst dX12_when_8 cI_0 ?_
  refine z_istore_n dX12_when_9 rfl (by decide) rfl ?_
  obtain ⟨e12, hl13, h⟩ := zb1_elim h
  obtain ⟨nf14, hl13⟩ := lp_some hl13
  refine z_mask [true, true, true, true, false] rfl (tX12_when_l10 T k0 h0 nf14 (r1, (-2), 0, S3) e12 hl13 (fun e_ q => ?_))
  · cases q
    refine z_iload_n dX12_when_51 rfl ?_
    cases h
    exact z_iret rfl dX12_when_52
/-! X12_sold -/
noncomputable def fX12_sold_b26 (T : zT) (s0 : Int32) (S : zS) : Option (Int32 × zS) :=
  some (s0, S)
noncomputable def fX12_sold_b25 (T : zT)  (S : zS) : Option (Int32 × zS) :=
  fX12_sold_b26 T (-1) S
noncomputable def fX12_sold (T : zT) (k0 : Nat) (x1 : Int32) (x2 : Int32) (S : zS) : Option (Int32 × zS) :=
  zb1 (fX12_has T k0 x1 S) fun r1 => if r1 = 0 then fX12_sold_b25 T  S else zb1 (fX12_isOfBook T k0 x2 S) fun r4 => if r4 = 0 then fX12_sold_b25 T  S else zb (fX12_soldBy T k0 x1 x2 S) fun r7 S9 => fX12_sold_b26 T r7 S9
set_option maxHeartbeats 4000000 in
set_option maxRecDepth 100000 in
theorem tX12_sold_b26 (T : zT) (s0 : Int32) (S : zS)  {g : zG} (r : (Int32 × zS)) (h : fX12_sold_b26 T s0 S = some r)  : zg g 8 mX12_sold T 26 [none, none, none] [.int s0] T S (some (.int r.1)) T r.2 := by
  unfold fX12_sold_b26 at h
  cases h
  exact z_iret rfl dX12_sold_26
set_option maxHeartbeats 4000000 in
set_option maxRecDepth 100000 in
theorem tX12_sold_b25 (T : zT)  (S : zS)  {g : zG} (r : (Int32 × zS)) (h : fX12_sold_b25 T  S = some r)  : zg g 8 mX12_sold T 25 [none, none, none] [] T S (some (.int r.1)) T r.2 := by
  unfold fX12_sold_b25 at h
  refine z_iconst dX12_sold_25 cI_m1 ?_
  exact z_mask [false, false, false] rfl (tX12_sold_b26 T (-1) S  r h)
set_option maxHeartbeats 4000000 in
set_option maxRecDepth 100000 in
theorem tX12_sold (T : zT) (k0 : Nat) (x1 : Int32) (x2 : Int32) (S : zS) (h0 : iX12 T k0) (r : Int32 × zS) (h : fX12_sold T k0 x1 x2 S = some r) : zGM 8 mX12_sold [.ref k0, .int x1, .int x2] T S (some (.int r.1)) T r.2 := by
  refine zGM_of zpnX12 rfl (Nat.le_of_ble_eq_true rfl) (fun g => ?_)
  show zg g 8 mX12_sold T 0 [some (.ref k0), some (.int x1), some (.int x2)] [] T S (some (.int r.1)) T r.2
  unfold fX12_sold at h
  refine z_aload_n dX12_sold_0 rfl ?_
  refine z_iload_n dX12_sold_1 rfl ?_
  obtain ⟨r1, hc2, h⟩ := zb1_elim h
  refine z_callV (As := [.int x1]) zcX12 zkX12_375 ziX12_has zqX12_has h0.1 (tX12_has T k0 x1 S h0 r1 hc2) rfl rfl (Nat.le_of_ble_eq_true rfl) (by decide) ⟨Nat.le_refl _, Nat.le_refl _⟩ ⟨Nat.le_refl _, Nat.le_refl _⟩ dX12_sold_2 ?_
  refine z_if_eq (tgt := 25) dX12_sold_5 (by decide) (fun q3 => ?_) (fun q3 => ?_)
  · rw [if_pos q3] at h
    exact z_mask [false, false, false] rfl (tX12_sold_b25 T  S  r h)
  · rw [if_neg q3] at h
    refine z_aload_n dX12_sold_8 rfl ?_
    refine z_iload_n dX12_sold_9 rfl ?_
    obtain ⟨r4, hc5, h⟩ := zb1_elim h
    refine z_callV (As := [.int x2]) zcX12 zkX12_526 ziX12_isOfBook zqX12_isOfBook h0.1 (tX12_isOfBook T k0 x2 S h0 r4 hc5) rfl rfl (Nat.le_of_ble_eq_true rfl) (by decide) ⟨Nat.le_refl _, Nat.le_refl _⟩ ⟨Nat.le_refl _, Nat.le_refl _⟩ dX12_sold_10 ?_
    refine z_if_eq (tgt := 25) dX12_sold_13 (by decide) (fun q6 => ?_) (fun q6 => ?_)
    · rw [if_pos q6] at h
      exact z_mask [false, false, false] rfl (tX12_sold_b25 T  S  r h)
    · rw [if_neg q6] at h
      refine z_aload_n dX12_sold_16 rfl ?_
      refine z_iload_n dX12_sold_17 rfl ?_
      refine z_iload_n dX12_sold_18 rfl ?_
      obtain ⟨r7, S9, hc8, h⟩ := zb_elim h
      refine z_callV (As := [.int x1, .int x2]) zcX12 zkX12_532 ziX12_soldBy zqX12_soldBy h0.1 (tX12_soldBy T k0 x1 x2 S h0 (r7, S9) hc8) rfl rfl (Nat.le_of_ble_eq_true rfl) (by decide) ⟨Nat.le_refl _, Nat.le_refl _⟩ ⟨Nat.le_refl _, Nat.le_refl _⟩ dX12_sold_19 ?_
      refine z_goto (tgt := 26) dX12_sold_22 (by decide) ?_
      exact z_mask [false, false, false] rfl (tX12_sold_b26 T r7 S9  r h)
/-! X12_selling -/
noncomputable def fX12_selling_b60 (T : zT) (k0 : Nat) (x1 : Int32) (x2 : Int32) (x3 : Int32) (x4 : Int32) (S : zS) : Option ((Int32 × Int32 × Int32 × zS) ⊕ (Int32 × zS)) :=
  zlet (x4 + 1) fun u13 => some (.inl (x2, x3, u13, S))
noncomputable def fX12_selling_l21 (T : zT) (k0 : Nat) (x1 : Int32) (x2 : Int32) (x3 : Int32) (x4 : Int32) (S : zS) : Option ((Int32 × Int32 × Int32 × zS) ⊕ (Int32 × zS)) :=
  zgd (zin 0 2) (if (S.1 (zr T k0 33) (0 : Int32).toNatClampNeg) ≤ x4 then some (.inr (x3, S)) else zb (fX12_soldBy T k0 x1 x4 S) fun r9 S11 => if r9 = (-2) then fX12_selling_b60 T k0 x1 x2 x3 x4 S11 else if r9 ≤ x2 then fX12_selling_b60 T k0 x1 x2 x3 x4 S11 else fX12_selling_b60 T k0 x1 r9 x4 x4 S11)
noncomputable def fX12_selling (T : zT) (k0 : Nat) (x1 : Int32) (S : zS) : Option (Int32 × zS) :=
  zb1 (fX12_has T k0 x1 S) fun r1 => if r1 = 0 then some ((-1), S) else zb (fX12_asBest T k0 S) fun r4 S6 => zb1 (lp (fun a => fX12_selling_l21 T k0 x1 a.1 a.2.1 a.2.2.1 a.2.2.2) (r4, (-2), 0, S6)) fun e15 => some (e15.1, e15.2)
set_option maxHeartbeats 4000000 in
set_option maxRecDepth 100000 in
theorem tX12_selling_b60 (T : zT) (k0 : Nat) (x1 : Int32) (x2 : Int32) (x3 : Int32) (x4 : Int32) (S : zS) (h0 : iX12 T k0) {g : zG} {v : Option Value} {S' : zS} (r : ((Int32 × Int32 × Int32 × zS) ⊕ (Int32 × zS))) (h : fX12_selling_b60 T k0 x1 x2 x3 x4 S = some r) (K1 : ∀ a : (Int32 × Int32 × Int32 × zS), r = .inl a → zg g 8 mX12_selling T 21 [some (.ref k0), some (.int x1), some (.int a.1), some (.int a.2.1), some (.int a.2.2.1), none] [] T a.2.2.2 v T S') (K2_0 : ∀ e : (Int32 × zS), r = .inr e → zg g 8 mX12_selling T 66 [none, none, none, some (.int e.1), none, none] [] T e.2 v T S') : zg g 8 mX12_selling T 60 [some (.ref k0), some (.int x1), some (.int x2), some (.int x3), some (.int x4), none] [] T S v T S' := by
  unfold fX12_selling_b60 at h
  obtain ⟨u13, eu13, h⟩ := zlet_elim h
  refine z_iinc (r := u13) dX12_selling_60 rfl (by rw [eu13, cI_1]) rfl (by decide) rfl ?_
  refine z_goto (tgt := 21) dX12_selling_63 (by decide) ?_
  cases h
  exact z_mask [true, true, true, true, true, false] rfl (K1 _ rfl)
set_option maxHeartbeats 4000000 in
set_option maxRecDepth 100000 in
theorem tX12_selling_l21b (T : zT) (k0 : Nat) (x1 : Int32) (x2 : Int32) (x3 : Int32) (x4 : Int32) (S : zS) (h0 : iX12 T k0) {g : zG} {v : Option Value} {S' : zS} (r : (Int32 × Int32 × Int32 × zS) ⊕ (Int32 × zS)) (h : fX12_selling_l21 T k0 x1 x2 x3 x4 S = some r) (K1 : ∀ a : (Int32 × Int32 × Int32 × zS), r = .inl a → zg g 8 mX12_selling T 21 [some (.ref k0), some (.int x1), some (.int a.1), some (.int a.2.1), some (.int a.2.2.1), none] [] T a.2.2.2 v T S') (K2_0 : ∀ e : (Int32 × zS), r = .inr e → zg g 8 mX12_selling T 66 [none, none, none, some (.int e.1), none, none] [] T e.2 v T S') : zg g 8 mX12_selling T 21 [some (.ref k0), some (.int x1), some (.int x2), some (.int x3), some (.int x4), none] [] T S v T S' := by
  unfold fX12_selling_l21 at h
  refine z_iload dX12_selling_21 rfl ?_
  refine z_aload_n dX12_selling_23 rfl ?_
  refine z_gA (zF.x zfX12_77) h0.1 dX12_selling_24 ?_
  refine z_iconst dX12_selling_27 cI_0 ?_
  obtain ⟨q7, h⟩ := zgd_elim h
  refine z_iald h0.2.2.2.2.2.2.2.2.2.2.2.2.2.2.2.2.2.2.2.2.2.2.2.1 (zin_ok q7) dX12_selling_28 ?_
  refine z_icmp_ge (tgt := 66) dX12_selling_29 (by decide) (fun q8 => ?_) (fun q8 => ?_)
  · rw [if_pos q8] at h
    cases h
    exact z_mask [false, false, false, true, false, false] rfl (K2_0 _ rfl)
  · rw [if_neg q8] at h
    refine z_aload_n dX12_selling_32 rfl ?_
    refine z_iload_n dX12_selling_33 rfl ?_
    refine z_iload dX12_selling_34 rfl ?_
    obtain ⟨r9, S11, hc10, h⟩ := zb_elim h
    refine z_callV (As := [.int x1, .int x4]) zcX12 zkX12_532 ziX12_soldBy zqX12_soldBy h0.1 (tX12_soldBy T k0 x1 x4 S h0 (r9, S11) hc10) rfl rfl (Nat.le_of_ble_eq_true rfl) (by decide) ⟨Nat.le_refl _, Nat.le_refl _⟩ ⟨Nat.le_refl _, Nat.le_refl _⟩ dX12_selling_36 ?_
    refine z_istore dX12_selling_39 rfl (by decide) rfl ?_
    refine z_iload dX12_selling_41 rfl ?_
    refine z_bipush dX12_selling_43 cB_m2 ?_
    refine z_icmp_eq (tgt := 60) dX12_selling_45 (by decide) (fun q12 => ?_) (fun q12 => ?_)
    · rw [if_pos q12] at h
      exact z_mask [true, true, true, true, true, false] rfl (tX12_selling_b60 T k0 x1 x2 x3 x4 S11 h0 r h K1 K2_0)
    · rw [if_neg q12] at h
      refine z_iload dX12_selling_48 rfl ?_
      refine z_iload_n dX12_selling_50 rfl ?_
      refine z_icmp_le (tgt := 60) dX12_selling_51 (by decide) (fun q14 => ?_) (fun q14 => ?_)
      · rw [if_pos q14] at h
        exact z_mask [true, true, true, true, true, false] rfl (tX12_selling_b60 T k0 x1 x2 x3 x4 S11 h0 r h K1 K2_0)
      · rw [if_neg q14] at h
        refine z_iload dX12_selling_54 rfl ?_
        refine z_istore_n dX12_selling_56 rfl (by decide) rfl ?_
        refine z_iload dX12_selling_57 rfl ?_
        refine z_istore_n dX12_selling_59 rfl (by decide) rfl ?_
        exact z_mask [true, true, true, true, true, false] rfl (tX12_selling_b60 T k0 x1 r9 x4 x4 S11 h0 r h K1 K2_0)
set_option maxHeartbeats 4000000 in
set_option maxRecDepth 100000 in
theorem tX12_selling_l21 (T : zT) (k0 : Nat) (x1 : Int32) (h0 : iX12 T k0) {g : zG} {v : Option Value} {S' : zS} : ∀ (n : Nat) (a : (Int32 × Int32 × Int32 × zS)) (e : (Int32 × zS)), lpn (fun a => fX12_selling_l21 T k0 x1 a.1 a.2.1 a.2.2.1 a.2.2.2) n a = some e → (∀ e1 : (Int32 × zS), e = e1 → zg g 8 mX12_selling T 66 [none, none, none, some (.int e1.1), none, none] [] T e1.2 v T S') → zg g 8 mX12_selling T 21 [some (.ref k0), some (.int x1), some (.int a.1), some (.int a.2.1), some (.int a.2.2.1), none] [] T a.2.2.2 v T S' := by
  intro n
  induction n with
  | zero =>
    intro a e h
    cases h
  | succ n ih =>
    intro a e h k0_
    rcases lpn_succ h with ⟨a1, ha_, hb_⟩ | ha_
    · exact tX12_selling_l21b T k0 x1 a.1 a.2.1 a.2.2.1 a.2.2.2 h0 _ ha_ (fun a2 q => by cases q; exact ih a1 e hb_ k0_) (fun e1 q => by cases q)
    · exact tX12_selling_l21b T k0 x1 a.1 a.2.1 a.2.2.1 a.2.2.2 h0 _ ha_ (fun a2 q => by cases q) (fun e1 q => by cases q; exact k0_ _ rfl)
set_option maxHeartbeats 4000000 in
set_option maxRecDepth 100000 in
theorem tX12_selling (T : zT) (k0 : Nat) (x1 : Int32) (S : zS) (h0 : iX12 T k0) (r : Int32 × zS) (h : fX12_selling T k0 x1 S = some r) : zGM 8 mX12_selling [.ref k0, .int x1] T S (some (.int r.1)) T r.2 := by
  refine zGM_of zpnX12 rfl (Nat.le_of_ble_eq_true rfl) (fun g => ?_)
  show zg g 8 mX12_selling T 0 [some (.ref k0), some (.int x1), none, none, none, none] [] T S (some (.int r.1)) T r.2
  unfold fX12_selling at h
  refine z_aload_n dX12_selling_0 rfl ?_
  refine z_iload_n dX12_selling_1 rfl ?_
  obtain ⟨r1, hc2, h⟩ := zb1_elim h
  refine z_callV (As := [.int x1]) zcX12 zkX12_375 ziX12_has zqX12_has h0.1 (tX12_has T k0 x1 S h0 r1 hc2) rfl rfl (Nat.le_of_ble_eq_true rfl) (by decide) ⟨Nat.le_refl _, Nat.le_refl _⟩ ⟨Nat.le_refl _, Nat.le_refl _⟩ dX12_selling_2 ?_
  refine z_if_ne (tgt := 10) dX12_selling_5 (by decide) (fun q3 => ?_) (fun q3 => ?_)
  · rw [if_neg q3] at h
    refine z_aload_n dX12_selling_10 rfl ?_
    obtain ⟨r4, S6, hc5, h⟩ := zb_elim h
    refine z_callV (As := []) zcX12 zkX12_518 ziX12_asBest zqX12_asBest h0.1 (tX12_asBest T k0 S h0 (r4, S6) hc5) rfl rfl (Nat.le_of_ble_eq_true rfl) (by decide) ⟨Nat.le_refl _, Nat.le_refl _⟩ ⟨Nat.le_refl _, Nat.le_refl _⟩ dX12_selling_11 ?_
    refine z_istore_n dX12_selling_14 rfl (by decide) rfl ?_
    refine z_bipush dX12_selling_15 cB_m2 ?_
    refine z_istore_n dX12_selling_17 rfl (by decide) rfl ?_
    refine z_iconst dX12_selling_18 cI_0 ?_
    refine z_istore dX12_selling_19 rfl (by decide) rfl ?_
    obtain ⟨e15, hl16, h⟩ := zb1_elim h
    obtain ⟨nf17, hl16⟩ := lp_some hl16
    refine z_mask [true, true, true, true, true, false] rfl (tX12_selling_l21 T k0 x1 h0 nf17 (r4, (-2), 0, S6) e15 hl16 (fun e_ q => ?_))
    · cases q
      refine z_iload_n dX12_selling_66 rfl ?_
      cases h
      exact z_iret rfl dX12_selling_67
  · rw [if_pos q3] at h
    refine z_iconst dX12_selling_8 cI_m1 ?_
    cases h
    exact z_iret rfl dX12_selling_9
/-! X12_ruled -/
noncomputable def fX12_ruled_b20 (T : zT)  (S : zS) : Option (Int32 × zS) :=
  some ((-2), S)
noncomputable def fX12_ruled_b102 (T : zT) (s0 : Int32) (S : zS) : Option (Int32 × zS) :=
  some (s0, S)
noncomputable def fX12_ruled_b73 (T : zT) (s0 : Int32) (S : zS) : Option (Int32 × zS) :=
  some (s0, S)
noncomputable def fX12_ruled_b61 (T : zT)  (S : zS) : Option (Int32 × zS) :=
  fX12_ruled_b73 T (-1000000) S
noncomputable def fX12_ruled_b36 (T : zT) (k0 : Nat) (x1 : Int32) (x2 : Int32) (s0 : Int32) (S : zS) : Option (Int32 × zS) :=
  zb (fX12_follows T k0 x1 0 S) fun _ S10 => if x2 = 3 then if s0 = (-1) then fX12_ruled_b61 T  S10 else if (S10.1 k0 50) = (-1) then fX12_ruled_b73 T (s0 - (S10.1 k0 48)) S10 else fX12_ruled_b61 T  S10 else if x2 = 0 then fX12_ruled_b102 T (S10.1 k0 48) S10 else if x2 = 1 then zb1 (fX12_placed T k0 1 S10) fun r14 => fX12_ruled_b102 T r14 S10 else fX12_ruled_b102 T (S10.1 k0 50) S10
noncomputable def fX12_ruled (T : zT) (k0 : Nat) (x1 : Int32) (x2 : Int32) (S : zS) : Option (Int32 × zS) :=
  zb1 (fX12_isRule T k0 x1 S) fun r1 => if r1 = 0 then fX12_ruled_b20 T  S else zb1 (fX12_in T ((x2 : Int32).toInt64) 0 3 S) fun r4 => if r4 = 0 then fX12_ruled_b20 T  S else if x2 = 3 then zb (fX12_asBest T k0 S) fun r18 S20 => fX12_ruled_b36 T k0 x1 x2 r18 S20 else fX12_ruled_b36 T k0 x1 x2 0 S
set_option maxHeartbeats 4000000 in
set_option maxRecDepth 100000 in
theorem tX12_ruled_b20 (T : zT)  (S : zS)  {g : zG} (r : (Int32 × zS)) (h : fX12_ruled_b20 T  S = some r)  : zg g 8 mX12_ruled T 20 [none, none, none, none] [] T S (some (.int r.1)) T r.2 := by
  unfold fX12_ruled_b20 at h
  refine z_bipush dX12_ruled_20 cB_m2 ?_
  cases h
  exact z_iret rfl dX12_ruled_22
set_option maxHeartbeats 4000000 in
set_option maxRecDepth 100000 in
theorem tX12_ruled_b102 (T : zT) (s0 : Int32) (S : zS)  {g : zG} (r : (Int32 × zS)) (h : fX12_ruled_b102 T s0 S = some r)  : zg g 8 mX12_ruled T 102 [none, none, none, none] [.int s0] T S (some (.int r.1)) T r.2 := by
  unfold fX12_ruled_b102 at h
  cases h
  exact z_iret rfl dX12_ruled_102
set_option maxHeartbeats 4000000 in
set_option maxRecDepth 100000 in
theorem tX12_ruled_b73 (T : zT) (s0 : Int32) (S : zS)  {g : zG} (r : (Int32 × zS)) (h : fX12_ruled_b73 T s0 S = some r)  : zg g 8 mX12_ruled T 73 [none, none, none, none] [.int s0] T S (some (.int r.1)) T r.2 := by
  unfold fX12_ruled_b73 at h
  cases h
  exact z_iret rfl dX12_ruled_73
set_option maxHeartbeats 4000000 in
set_option maxRecDepth 100000 in
theorem tX12_ruled_b61 (T : zT)  (S : zS)  {g : zG} (r : (Int32 × zS)) (h : fX12_ruled_b61 T  S = some r)  : zg g 8 mX12_ruled T 61 [none, none, none, none] [] T S (some (.int r.1)) T r.2 := by
  unfold fX12_ruled_b61 at h
  refine z_ldcw znX12_525 dX12_ruled_61 ?_
  refine z_goto (tgt := 73) dX12_ruled_64 (by decide) ?_
  exact z_mask [false, false, false, false] rfl (tX12_ruled_b73 T (-1000000) S  r h)
set_option maxHeartbeats 4000000 in
set_option maxRecDepth 100000 in
theorem tX12_ruled_b36 (T : zT) (k0 : Nat) (x1 : Int32) (x2 : Int32) (s0 : Int32) (S : zS) (h0 : iX12 T k0) {g : zG} (r : (Int32 × zS)) (h : fX12_ruled_b36 T k0 x1 x2 s0 S = some r)  : zg g 8 mX12_ruled T 36 [some (.ref k0), some (.int x1), some (.int x2), none] [.int s0] T S (some (.int r.1)) T r.2 := by
  unfold fX12_ruled_b36 at h
  refine z_istore_n dX12_ruled_36 rfl (by decide) rfl ?_
  refine z_aload_n dX12_ruled_37 rfl ?_
  refine z_iload_n dX12_ruled_38 rfl ?_
  refine z_iconst dX12_ruled_39 cI_0 ?_
  obtain ⟨r8, S10, hc9, h⟩ := zb_elim h
  refine z_callV (As := [.int x1, .int 0]) zcX12 zkX12_554 ziX12_follows zqX12_follows h0.1 (tX12_follows T k0 x1 0 S h0 (r8, S10) hc9) rfl rfl (Nat.le_of_ble_eq_true rfl) (by decide) ⟨Nat.le_refl _, Nat.le_refl _⟩ ⟨Nat.le_refl _, Nat.le_refl _⟩ dX12_ruled_40 ?_
  refine z_iload_n dX12_ruled_43 rfl ?_
  refine z_iconst dX12_ruled_44 cI_3 ?_
  refine z_icmp_ne (tgt := 74) dX12_ruled_45 (by decide) (fun q11 => ?_) (fun q11 => ?_)
  · rw [if_neg q11] at h
    refine z_iload_n dX12_ruled_74 rfl ?_
    refine z_if_ne (tgt := 85) dX12_ruled_75 (by decide) (fun q12 => ?_) (fun q12 => ?_)
    · rw [if_neg q12] at h
      refine z_iload_n dX12_ruled_85 rfl ?_
      refine z_iconst dX12_ruled_86 cI_1 ?_
      refine z_icmp_ne (tgt := 98) dX12_ruled_87 (by decide) (fun q13 => ?_) (fun q13 => ?_)
      · rw [if_neg q13] at h
        refine z_aload_n dX12_ruled_98 rfl ?_
        refine z_gI (zF.x zfX12_411) h0.1 dX12_ruled_99 ?_
        exact z_mask [false, false, false, false] rfl (tX12_ruled_b102 T (S10.1 k0 50) S10  r h)
      · rw [if_pos q13] at h
        refine z_aload_n dX12_ruled_90 rfl ?_
        refine z_iconst dX12_ruled_91 cI_1 ?_
        obtain ⟨r14, hc15, h⟩ := zb1_elim h
        refine z_callV (As := [.int 1]) zcX12 zkX12_420 ziX12_placed zqX12_placed h0.1 (tX12_placed T k0 1 S10 h0 r14 hc15) rfl rfl (Nat.le_of_ble_eq_true rfl) (by decide) ⟨Nat.le_refl _, Nat.le_refl _⟩ ⟨Nat.le_refl _, Nat.le_refl _⟩ dX12_ruled_92 ?_
        refine z_goto (tgt := 102) dX12_ruled_95 (by decide) ?_
        exact z_mask [false, false, false, false] rfl (tX12_ruled_b102 T r14 S10  r h)
    · rw [if_pos q12] at h
      refine z_aload_n dX12_ruled_78 rfl ?_
      refine z_gI (zF.x zfX12_401) h0.1 dX12_ruled_79 ?_
      refine z_goto (tgt := 102) dX12_ruled_82 (by decide) ?_
      exact z_mask [false, false, false, false] rfl (tX12_ruled_b102 T (S10.1 k0 48) S10  r h)
  · rw [if_pos q11] at h
    refine z_iload_n dX12_ruled_48 rfl ?_
    refine z_iconst dX12_ruled_49 cI_m1 ?_
    refine z_icmp_eq (tgt := 61) dX12_ruled_50 (by decide) (fun q16 => ?_) (fun q16 => ?_)
    · rw [if_pos q16] at h
      exact z_mask [false, false, false, false] rfl (tX12_ruled_b61 T  S10  r h)
    · rw [if_neg q16] at h
      refine z_aload_n dX12_ruled_53 rfl ?_
      refine z_gI (zF.x zfX12_411) h0.1 dX12_ruled_54 ?_
      refine z_iconst dX12_ruled_57 cI_m1 ?_
      refine z_icmp_eq (tgt := 67) dX12_ruled_58 (by decide) (fun q17 => ?_) (fun q17 => ?_)
      · rw [if_pos q17] at h
        refine z_iload_n dX12_ruled_67 rfl ?_
        refine z_aload_n dX12_ruled_68 rfl ?_
        refine z_gI (zF.x zfX12_401) h0.1 dX12_ruled_69 ?_
        refine z_isub dX12_ruled_72 rfl ?_
        exact z_mask [false, false, false, false] rfl (tX12_ruled_b73 T (s0 - (S10.1 k0 48)) S10  r h)
      · rw [if_neg q17] at h
        exact z_mask [false, false, false, false] rfl (tX12_ruled_b61 T  S10  r h)
set_option maxHeartbeats 4000000 in
set_option maxRecDepth 100000 in
theorem tX12_ruled (T : zT) (k0 : Nat) (x1 : Int32) (x2 : Int32) (S : zS) (h0 : iX12 T k0) (r : Int32 × zS) (h : fX12_ruled T k0 x1 x2 S = some r) : zGM 8 mX12_ruled [.ref k0, .int x1, .int x2] T S (some (.int r.1)) T r.2 := by
  refine zGM_of zpnX12 rfl (Nat.le_of_ble_eq_true rfl) (fun g => ?_)
  show zg g 8 mX12_ruled T 0 [some (.ref k0), some (.int x1), some (.int x2), none] [] T S (some (.int r.1)) T r.2
  unfold fX12_ruled at h
  refine z_aload_n dX12_ruled_0 rfl ?_
  refine z_iload_n dX12_ruled_1 rfl ?_
  obtain ⟨r1, hc2, h⟩ := zb1_elim h
  refine z_callV (As := [.int x1]) zcX12 zkX12_537 ziX12_isRule zqX12_isRule h0.1 (tX12_isRule T k0 x1 S h0 r1 hc2) rfl rfl (Nat.le_of_ble_eq_true rfl) (by decide) ⟨Nat.le_refl _, Nat.le_refl _⟩ ⟨Nat.le_refl _, Nat.le_refl _⟩ dX12_ruled_2 ?_
  refine z_if_eq (tgt := 20) dX12_ruled_5 (by decide) (fun q3 => ?_) (fun q3 => ?_)
  · rw [if_pos q3] at h
    exact z_mask [false, false, false, false] rfl (tX12_ruled_b20 T  S  r h)
  · rw [if_neg q3] at h
    refine z_iload_n dX12_ruled_8 rfl ?_
    refine z_i2l dX12_ruled_9 rfl ?_
    refine z_lconst (r := 0) dX12_ruled_10 rfl ?_
    refine z_ldc2 znX12_552 dX12_ruled_11 ?_
    obtain ⟨r4, hc5, h⟩ := zb1_elim h
    refine z_callS (As := [.long ((x2 : Int32).toInt64), .long 0, .long 3]) zkX12_201 zsX12_in (tX12_in T ((x2 : Int32).toInt64) 0 3 S  r4 hc5) rfl rfl (Nat.le_of_ble_eq_true rfl) (by decide) ⟨Nat.le_refl _, Nat.le_refl _⟩ ⟨Nat.le_refl _, Nat.le_refl _⟩ dX12_ruled_14 ?_
    refine z_if_ne (tgt := 23) dX12_ruled_17 (by decide) (fun q6 => ?_) (fun q6 => ?_)
    · rw [if_neg q6] at h
      refine z_iload_n dX12_ruled_23 rfl ?_
      refine z_iconst dX12_ruled_24 cI_3 ?_
      refine z_icmp_ne (tgt := 35) dX12_ruled_25 (by decide) (fun q7 => ?_) (fun q7 => ?_)
      · rw [if_neg q7] at h
        refine z_iconst dX12_ruled_35 cI_0 ?_
        exact z_mask [true, true, true, false] rfl (tX12_ruled_b36 T k0 x1 x2 0 S h0 r h)
      · rw [if_pos q7] at h
        refine z_aload_n dX12_ruled_28 rfl ?_
        obtain ⟨r18, S20, hc19, h⟩ := zb_elim h
        refine z_callV (As := []) zcX12 zkX12_518 ziX12_asBest zqX12_asBest h0.1 (tX12_asBest T k0 S h0 (r18, S20) hc19) rfl rfl (Nat.le_of_ble_eq_true rfl) (by decide) ⟨Nat.le_refl _, Nat.le_refl _⟩ ⟨Nat.le_refl _, Nat.le_refl _⟩ dX12_ruled_29 ?_
        refine z_goto (tgt := 36) dX12_ruled_32 (by decide) ?_
        exact z_mask [true, true, true, false] rfl (tX12_ruled_b36 T k0 x1 x2 r18 S20 h0 r h)
    · rw [if_pos q6] at h
      exact z_mask [false, false, false, false] rfl (tX12_ruled_b20 T  S  r h)
/-! X12_fact -/
noncomputable def fX12_fact (T : zT) (k0 : Nat) (S : zS) : Option (Int32 × zS) :=
  zb (fX12_blanks T k0 S) fun _ S3 => zb1 (fX12_stands T k0 13 S3) fun r4 => if r4 = 0 then zb1 (fX12_sign T k0 S3) fun r7 => if r7 = 91 then zb (fX12_opens T k0 12 S3) fun _ S15 => zlet (zI S15 k0 2 ((S15.1 k0 2) + 1)) fun S16 => some (0, S16) else zb (fX12_compared T k0 S3) fun _ S12 => some (1, S12) else zb (fX12_opens T k0 9 S3) fun _ S19 => zlet (zI S19 k0 2 ((S19.1 k0 2) + 3)) fun S20 => some (0, S20)
set_option maxHeartbeats 4000000 in
set_option maxRecDepth 100000 in
theorem tX12_fact (T : zT) (k0 : Nat) (S : zS) (h0 : iX12 T k0) (r : Int32 × zS) (h : fX12_fact T k0 S = some r) : zGM 9 mX12_fact [.ref k0] T S (some (.int r.1)) T r.2 := by
  refine zGM_of zpnX12 rfl (Nat.le_of_ble_eq_true rfl) (fun g => ?_)
  show zg g 9 mX12_fact T 0 [some (.ref k0)] [] T S (some (.int r.1)) T r.2
  unfold fX12_fact at h
  refine z_aload_n dX12_fact_0 rfl ?_
  obtain ⟨r1, S3, hc2, h⟩ := zb_elim h
  refine z_callV (As := []) zcX12 zkX12_213 ziX12_blanks zqX12_blanks h0.1 (tX12_blanks T k0 S h0 (r1, S3) hc2) rfl rfl (Nat.le_of_ble_eq_true rfl) (by decide) ⟨Nat.le_refl _, Nat.le_refl _⟩ ⟨Nat.le_refl _, Nat.le_refl _⟩ dX12_fact_1 ?_
  refine z_aload_n dX12_fact_4 rfl ?_
  refine z_ldcSW (i := 13) rfl dX12_fact_5 ?_
  obtain ⟨r4, hc5, h⟩ := zb1_elim h
  refine z_callV (As := [.ref (10002 + 13)]) zcX12 zkX12_216 ziX12_stands zqX12_stands h0.1 (tX12_stands T k0 13 S3 h0 (by decide) r4 hc5) rfl rfl (Nat.le_of_ble_eq_true rfl) (by decide) ⟨Nat.le_refl _, Nat.le_refl _⟩ ⟨Nat.le_refl _, Nat.le_refl _⟩ dX12_fact_8 ?_
  refine z_if_eq (tgt := 32) dX12_fact_11 (by decide) (fun q6 => ?_) (fun q6 => ?_)
  · rw [if_pos q6] at h
    refine z_aload_n dX12_fact_32 rfl ?_
    obtain ⟨r7, hc8, h⟩ := zb1_elim h
    refine z_callV (As := []) zcX12 zkX12_193 ziX12_sign zqX12_sign h0.1 (tX12_sign T k0 S3 h0 r7 hc8) rfl rfl (Nat.le_of_ble_eq_true rfl) (by decide) ⟨Nat.le_refl _, Nat.le_refl _⟩ ⟨Nat.le_refl _, Nat.le_refl _⟩ dX12_fact_33 ?_
    refine z_bipush dX12_fact_36 cB_91 ?_
    refine z_icmp_ne (tgt := 59) dX12_fact_38 (by decide) (fun q9 => ?_) (fun q9 => ?_)
    · rw [if_neg q9] at h
      refine z_aload_n dX12_fact_59 rfl ?_
      obtain ⟨r10, S12, hc11, h⟩ := zb_elim h
      refine z_callV (As := []) zcX12 zkX12_274 ziX12_compared zqX12_compared h0.1 (tX12_compared T k0 S3 h0 (r10, S12) hc11) rfl rfl (Nat.le_of_ble_eq_true rfl) (by decide) ⟨Nat.le_refl _, Nat.le_refl _⟩ ⟨Nat.le_refl _, Nat.le_refl _⟩ dX12_fact_60 ?_
      refine z_iconst dX12_fact_63 cI_1 ?_
      cases h
      exact z_zret rfl (Or.inr rfl) dX12_fact_64
    · rw [if_pos q9] at h
      refine z_aload_n dX12_fact_41 rfl ?_
      refine z_bipush dX12_fact_42 cB_12 ?_
      obtain ⟨r13, S15, hc14, h⟩ := zb_elim h
      refine z_callV (As := [.int 12]) zcX12 zkX12_271 ziX12_opens zqX12_opens h0.1 (tX12_opens T k0 12 S3 h0 (r13, S15) hc14) rfl rfl (Nat.le_of_ble_eq_true rfl) (by decide) ⟨Nat.le_refl _, Nat.le_refl _⟩ ⟨Nat.le_refl _, Nat.le_refl _⟩ dX12_fact_44 ?_
      refine z_aload_n dX12_fact_47 rfl ?_
      refine z_dup dX12_fact_48 rfl ?_
      refine z_gI (zF.x zfX12_190) h0.1 dX12_fact_49 ?_
      refine z_iconst dX12_fact_52 cI_1 ?_
      refine z_iadd dX12_fact_53 rfl ?_
      refine z_putI zfX12_190 h0.1 dX12_fact_54 ?_
      obtain ⟨S16, eS16, h⟩ := zlet_elim h
      refine z_tS eS16 ?_
      refine z_iconst dX12_fact_57 cI_0 ?_
      cases h
      exact z_zret rfl (Or.inl rfl) dX12_fact_58
  · rw [if_neg q6] at h
    refine z_aload_n dX12_fact_14 rfl ?_
    refine z_bipush dX12_fact_15 cB_9 ?_
    obtain ⟨r17, S19, hc18, h⟩ := zb_elim h
    refine z_callV (As := [.int 9]) zcX12 zkX12_271 ziX12_opens zqX12_opens h0.1 (tX12_opens T k0 9 S3 h0 (r17, S19) hc18) rfl rfl (Nat.le_of_ble_eq_true rfl) (by decide) ⟨Nat.le_refl _, Nat.le_refl _⟩ ⟨Nat.le_refl _, Nat.le_refl _⟩ dX12_fact_17 ?_
    refine z_aload_n dX12_fact_20 rfl ?_
    refine z_dup dX12_fact_21 rfl ?_
    refine z_gI (zF.x zfX12_190) h0.1 dX12_fact_22 ?_
    refine z_iconst dX12_fact_25 cI_3 ?_
    refine z_iadd dX12_fact_26 rfl ?_
    refine z_putI zfX12_190 h0.1 dX12_fact_27 ?_
    obtain ⟨S20, eS20, h⟩ := zlet_elim h
    refine z_tS eS20 ?_
    refine z_iconst dX12_fact_30 cI_0 ?_
    cases h
    exact z_zret rfl (Or.inl rfl) dX12_fact_31
/-! X12_hangs -/
noncomputable def fX12_hangs_b31 (T : zT) (s0 : Int32) (S : zS) : Option (Int32 × zS) :=
  some (s0, S)
noncomputable def fX12_hangs (T : zT) (k0 : Nat) (x1 : Int32) (S : zS) : Option (Int32 × zS) :=
  zb1 (fX12_has T k0 x1 S) fun r1 => if r1 = 0 then some ((-1), S) else zb (fX12_asBest T k0 S) fun r4 S6 => if r4 = (-1) then fX12_hangs_b31 T (-2) S6 else zb (fX12_hangsOn T k0 x1 r4 S6) fun r8 S10 => fX12_hangs_b31 T r8 S10
set_option maxHeartbeats 4000000 in
set_option maxRecDepth 100000 in
theorem tX12_hangs_b31 (T : zT) (s0 : Int32) (S : zS)  {g : zG} (r : (Int32 × zS)) (h : fX12_hangs_b31 T s0 S = some r)  : zg g 9 mX12_hangs T 31 [none, none, none] [.int s0] T S (some (.int r.1)) T r.2 := by
  unfold fX12_hangs_b31 at h
  cases h
  exact z_iret rfl dX12_hangs_31
set_option maxHeartbeats 4000000 in
set_option maxRecDepth 100000 in
theorem tX12_hangs (T : zT) (k0 : Nat) (x1 : Int32) (S : zS) (h0 : iX12 T k0) (r : Int32 × zS) (h : fX12_hangs T k0 x1 S = some r) : zGM 9 mX12_hangs [.ref k0, .int x1] T S (some (.int r.1)) T r.2 := by
  refine zGM_of zpnX12 rfl (Nat.le_of_ble_eq_true rfl) (fun g => ?_)
  show zg g 9 mX12_hangs T 0 [some (.ref k0), some (.int x1), none] [] T S (some (.int r.1)) T r.2
  unfold fX12_hangs at h
  refine z_aload_n dX12_hangs_0 rfl ?_
  refine z_iload_n dX12_hangs_1 rfl ?_
  obtain ⟨r1, hc2, h⟩ := zb1_elim h
  refine z_callV (As := [.int x1]) zcX12 zkX12_375 ziX12_has zqX12_has h0.1 (tX12_has T k0 x1 S h0 r1 hc2) rfl rfl (Nat.le_of_ble_eq_true rfl) (by decide) ⟨Nat.le_refl _, Nat.le_refl _⟩ ⟨Nat.le_refl _, Nat.le_refl _⟩ dX12_hangs_2 ?_
  refine z_if_ne (tgt := 10) dX12_hangs_5 (by decide) (fun q3 => ?_) (fun q3 => ?_)
  · rw [if_neg q3] at h
    refine z_aload_n dX12_hangs_10 rfl ?_
    obtain ⟨r4, S6, hc5, h⟩ := zb_elim h
    refine z_callV (As := []) zcX12 zkX12_518 ziX12_asBest zqX12_asBest h0.1 (tX12_asBest T k0 S h0 (r4, S6) hc5) rfl rfl (Nat.le_of_ble_eq_true rfl) (by decide) ⟨Nat.le_refl _, Nat.le_refl _⟩ ⟨Nat.le_refl _, Nat.le_refl _⟩ dX12_hangs_11 ?_
    refine z_istore_n dX12_hangs_14 rfl (by decide) rfl ?_
    refine z_iload_n dX12_hangs_15 rfl ?_
    refine z_iconst dX12_hangs_16 cI_m1 ?_
    refine z_icmp_ne (tgt := 25) dX12_hangs_17 (by decide) (fun q7 => ?_) (fun q7 => ?_)
    · rw [if_neg q7] at h
      refine z_aload_n dX12_hangs_25 rfl ?_
      refine z_iload_n dX12_hangs_26 rfl ?_
      refine z_iload_n dX12_hangs_27 rfl ?_
      obtain ⟨r8, S10, hc9, h⟩ := zb_elim h
      refine z_callV (As := [.int x1, .int r4]) zcX12 zkX12_521 ziX12_hangsOn zqX12_hangsOn h0.1 (tX12_hangsOn T k0 x1 r4 S6 h0 (r8, S10) hc9) rfl rfl (Nat.le_of_ble_eq_true rfl) (by decide) ⟨Nat.le_refl _, Nat.le_refl _⟩ ⟨Nat.le_refl _, Nat.le_refl _⟩ dX12_hangs_28 ?_
      exact z_mask [false, false, false] rfl (tX12_hangs_b31 T r8 S10  r h)
    · rw [if_pos q7] at h
      refine z_bipush dX12_hangs_20 cB_m2 ?_
      refine z_goto (tgt := 31) dX12_hangs_22 (by decide) ?_
      exact z_mask [false, false, false] rfl (tX12_hangs_b31 T (-2) S6  r h)
  · rw [if_pos q3] at h
    refine z_iconst dX12_hangs_8 cI_m1 ?_
    cases h
    exact z_iret rfl dX12_hangs_9
/-! X12_key -/
noncomputable def fX12_key_b85 (T : zT) (k0 : Nat) (x1 : Int32) (x2 : Int32) (x3 : Int32) (x4 : Int32) (S : zS) : Option ((Int32 × Int32 × Int32 × zS) ⊕ (Int32 × zS)) :=
  zlet (x4 + 1) fun u8 => some (.inl (x2, x3, u8, S))
noncomputable def fX12_key_b79 (T : zT) (k0 : Nat) (x1 : Int32) (x4 : Int32) (x5 : Int32) (S : zS) : Option ((Int32 × Int32 × Int32 × zS) ⊕ (Int32 × zS)) :=
  fX12_key_b85 T k0 x1 x4 x5 x4 S
noncomputable def fX12_key_l13 (T : zT) (k0 : Nat) (x1 : Int32) (x2 : Int32) (x3 : Int32) (x4 : Int32) (S : zS) : Option ((Int32 × Int32 × Int32 × zS) ⊕ (Int32 × zS)) :=
  if 8 ≤ x4 then some (.inr (x2, S)) else if x1 = (-1) then some (.inr (x2, S)) else zgd (zin x4 16) (if (S.1 (zr T k0 22) (x4 : Int32).toNatClampNeg) = 1 then zb (fX12_hangsOn T k0 x4 x1 S) fun r9 S11 => if x2 = (-2) then fX12_key_b79 T k0 x1 x4 r9 S11 else if x3 < r9 then fX12_key_b79 T k0 x1 x4 r9 S11 else if r9 = x3 then zgd (zin x4 16) (zgd (zin x2 16) (if (S11.1 (zr T k0 23) (x2 : Int32).toNatClampNeg) ≤ (S11.1 (zr T k0 23) (x4 : Int32).toNatClampNeg) then fX12_key_b85 T k0 x1 x2 x3 x4 S11 else fX12_key_b79 T k0 x1 x4 r9 S11)) else fX12_key_b85 T k0 x1 x2 x3 x4 S11 else fX12_key_b85 T k0 x1 x2 x3 x4 S)
noncomputable def fX12_key_b91 (T : zT) (x2 : Int32) (S : zS) : Option (Int32 × zS) :=
  some (x2, S)
noncomputable def fX12_key (T : zT) (k0 : Nat) (S : zS) : Option (Int32 × zS) :=
  zb (fX12_asBest T k0 S) fun r1 S3 => zb1 (lp (fun a => fX12_key_l13 T k0 r1 a.1 a.2.1 a.2.2.1 a.2.2.2) ((-2), 0, 0, S3)) fun e18 => fX12_key_b91 T e18.1 e18.2
set_option maxHeartbeats 4000000 in
set_option maxRecDepth 100000 in
theorem tX12_key_b85 (T : zT) (k0 : Nat) (x1 : Int32) (x2 : Int32) (x3 : Int32) (x4 : Int32) (S : zS) (h0 : iX12 T k0) {g : zG} {v : Option Value} {S' : zS} (r : ((Int32 × Int32 × Int32 × zS) ⊕ (Int32 × zS))) (h : fX12_key_b85 T k0 x1 x2 x3 x4 S = some r) (K1 : ∀ a : (Int32 × Int32 × Int32 × zS), r = .inl a → zg g 9 mX12_key T 13 [some (.ref k0), some (.int x1), some (.int a.1), some (.int a.2.1), some (.int a.2.2.1), none] [] T a.2.2.2 v T S') (K2_0 : ∀ e : (Int32 × zS), r = .inr e → zg g 9 mX12_key T 91 [none, none, some (.int e.1), none, none, none] [] T e.2 v T S') : zg g 9 mX12_key T 85 [some (.ref k0), some (.int x1), some (.int x2), some (.int x3), some (.int x4), none] [] T S v T S' := by
  unfold fX12_key_b85 at h
  obtain ⟨u8, eu8, h⟩ := zlet_elim h
  refine z_iinc (r := u8) dX12_key_85 rfl (by rw [eu8, cI_1]) rfl (by decide) rfl ?_
  refine z_goto (tgt := 13) dX12_key_88 (by decide) ?_
  cases h
  exact z_mask [true, true, true, true, true, false] rfl (K1 _ rfl)
set_option maxHeartbeats 4000000 in
set_option maxRecDepth 100000 in
theorem tX12_key_b79 (T : zT) (k0 : Nat) (x1 : Int32) (x4 : Int32) (x5 : Int32) (S : zS) (h0 : iX12 T k0) {g : zG} {v : Option Value} {S' : zS} (r : ((Int32 × Int32 × Int32 × zS) ⊕ (Int32 × zS))) (h : fX12_key_b79 T k0 x1 x4 x5 S = some r) (K1 : ∀ a : (Int32 × Int32 × Int32 × zS), r = .inl a → zg g 9 mX12_key T 13 [some (.ref k0), some (.int x1), some (.int a.1), some (.int a.2.1), some (.int a.2.2.1), none] [] T a.2.2.2 v T S') (K2_0 : ∀ e : (Int32 × zS), r = .inr e → zg g 9 mX12_key T 91 [none, none, some (.int e.1), none, none, none] [] T e.2 v T S') : zg g 9 mX12_key T 79 [some (.ref k0), some (.int x1), none, none, some (.int x4), some (.int x5)] [] T S v T S' := by
  unfold fX12_key_b79 at h
  refine z_iload dX12_key_79 rfl ?_
  refine z_istore_n dX12_key_81 rfl (by decide) rfl ?_
  refine z_iload dX12_key_82 rfl ?_
  refine z_istore_n dX12_key_84 rfl (by decide) rfl ?_
  exact z_mask [true, true, true, true, true, false] rfl (tX12_key_b85 T k0 x1 x4 x5 x4 S h0 r h K1 K2_0)
set_option maxHeartbeats 4000000 in
set_option maxRecDepth 100000 in
theorem tX12_key_l13b (T : zT) (k0 : Nat) (x1 : Int32) (x2 : Int32) (x3 : Int32) (x4 : Int32) (S : zS) (h0 : iX12 T k0) {g : zG} {v : Option Value} {S' : zS} (r : (Int32 × Int32 × Int32 × zS) ⊕ (Int32 × zS)) (h : fX12_key_l13 T k0 x1 x2 x3 x4 S = some r) (K1 : ∀ a : (Int32 × Int32 × Int32 × zS), r = .inl a → zg g 9 mX12_key T 13 [some (.ref k0), some (.int x1), some (.int a.1), some (.int a.2.1), some (.int a.2.2.1), none] [] T a.2.2.2 v T S') (K2_0 : ∀ e : (Int32 × zS), r = .inr e → zg g 9 mX12_key T 91 [none, none, some (.int e.1), none, none, none] [] T e.2 v T S') : zg g 9 mX12_key T 13 [some (.ref k0), some (.int x1), some (.int x2), some (.int x3), some (.int x4), none] [] T S v T S' := by
  unfold fX12_key_l13 at h
  refine z_iload dX12_key_13 rfl ?_
  refine z_bipush dX12_key_15 cB_8 ?_
  refine z_icmp_ge (tgt := 91) dX12_key_17 (by decide) (fun q4 => ?_) (fun q4 => ?_)
  · rw [if_pos q4] at h
    cases h
    exact z_mask [false, false, true, false, false, false] rfl (K2_0 _ rfl)
  · rw [if_neg q4] at h
    refine z_iload_n dX12_key_20 rfl ?_
    refine z_iconst dX12_key_21 cI_m1 ?_
    refine z_icmp_eq (tgt := 91) dX12_key_22 (by decide) (fun q5 => ?_) (fun q5 => ?_)
    · rw [if_pos q5] at h
      cases h
      exact z_mask [false, false, true, false, false, false] rfl (K2_0 _ rfl)
    · rw [if_neg q5] at h
      refine z_aload_n dX12_key_25 rfl ?_
      refine z_gA (zF.x zfX12_44) h0.1 dX12_key_26 ?_
      refine z_iload dX12_key_29 rfl ?_
      obtain ⟨q6, h⟩ := zgd_elim h
      refine z_iald h0.2.2.2.2.2.2.2.2.2.2.2.2.1 (zin_ok q6) dX12_key_31 ?_
      refine z_iconst dX12_key_32 cI_1 ?_
      refine z_icmp_ne (tgt := 85) dX12_key_33 (by decide) (fun q7 => ?_) (fun q7 => ?_)
      · rw [if_neg q7] at h
        exact z_mask [true, true, true, true, true, false] rfl (tX12_key_b85 T k0 x1 x2 x3 x4 S h0 r h K1 K2_0)
      · rw [if_pos q7] at h
        refine z_aload_n dX12_key_36 rfl ?_
        refine z_iload dX12_key_37 rfl ?_
        refine z_iload_n dX12_key_39 rfl ?_
        obtain ⟨r9, S11, hc10, h⟩ := zb_elim h
        refine z_callV (As := [.int x4, .int x1]) zcX12 zkX12_521 ziX12_hangsOn zqX12_hangsOn h0.1 (tX12_hangsOn T k0 x4 x1 S h0 (r9, S11) hc10) rfl rfl (Nat.le_of_ble_eq_true rfl) (by decide) ⟨Nat.le_refl _, Nat.le_refl _⟩ ⟨Nat.le_refl _, Nat.le_refl _⟩ dX12_key_40 ?_
        refine z_istore dX12_key_43 rfl (by decide) rfl ?_
        refine z_iload_n dX12_key_45 rfl ?_
        refine z_bipush dX12_key_46 cB_m2 ?_
        refine z_icmp_eq (tgt := 79) dX12_key_48 (by decide) (fun q12 => ?_) (fun q12 => ?_)
        · rw [if_pos q12] at h
          exact z_mask [true, true, false, false, true, true] rfl (tX12_key_b79 T k0 x1 x4 r9 S11 h0 r h K1 K2_0)
        · rw [if_neg q12] at h
          refine z_iload dX12_key_51 rfl ?_
          refine z_iload_n dX12_key_53 rfl ?_
          refine z_icmp_gt (tgt := 79) dX12_key_54 (by decide) (fun q13 => ?_) (fun q13 => ?_)
          · rw [if_pos q13] at h
            exact z_mask [true, true, false, false, true, true] rfl (tX12_key_b79 T k0 x1 x4 r9 S11 h0 r h K1 K2_0)
          · rw [if_neg q13] at h
            refine z_iload dX12_key_57 rfl ?_
            refine z_iload_n dX12_key_59 rfl ?_
            refine z_icmp_ne (tgt := 85) dX12_key_60 (by decide) (fun q14 => ?_) (fun q14 => ?_)
            · rw [if_neg q14] at h
              exact z_mask [true, true, true, true, true, false] rfl (tX12_key_b85 T k0 x1 x2 x3 x4 S11 h0 r h K1 K2_0)
            · rw [if_pos q14] at h
              refine z_aload_n dX12_key_63 rfl ?_
              refine z_gA (zF.x zfX12_47) h0.1 dX12_key_64 ?_
              refine z_iload dX12_key_67 rfl ?_
              obtain ⟨q15, h⟩ := zgd_elim h
              refine z_iald h0.2.2.2.2.2.2.2.2.2.2.2.2.2.1 (zin_ok q15) dX12_key_69 ?_
              refine z_aload_n dX12_key_70 rfl ?_
              refine z_gA (zF.x zfX12_47) h0.1 dX12_key_71 ?_
              refine z_iload_n dX12_key_74 rfl ?_
              obtain ⟨q16, h⟩ := zgd_elim h
              refine z_iald h0.2.2.2.2.2.2.2.2.2.2.2.2.2.1 (zin_ok q16) dX12_key_75 ?_
              refine z_icmp_ge (tgt := 85) dX12_key_76 (by decide) (fun q17 => ?_) (fun q17 => ?_)
              · rw [if_pos q17] at h
                exact z_mask [true, true, true, true, true, false] rfl (tX12_key_b85 T k0 x1 x2 x3 x4 S11 h0 r h K1 K2_0)
              · rw [if_neg q17] at h
                exact z_mask [true, true, false, false, true, true] rfl (tX12_key_b79 T k0 x1 x4 r9 S11 h0 r h K1 K2_0)
set_option maxHeartbeats 4000000 in
set_option maxRecDepth 100000 in
theorem tX12_key_l13 (T : zT) (k0 : Nat) (x1 : Int32) (h0 : iX12 T k0) {g : zG} {v : Option Value} {S' : zS} : ∀ (n : Nat) (a : (Int32 × Int32 × Int32 × zS)) (e : (Int32 × zS)), lpn (fun a => fX12_key_l13 T k0 x1 a.1 a.2.1 a.2.2.1 a.2.2.2) n a = some e → (∀ e1 : (Int32 × zS), e = e1 → zg g 9 mX12_key T 91 [none, none, some (.int e1.1), none, none, none] [] T e1.2 v T S') → zg g 9 mX12_key T 13 [some (.ref k0), some (.int x1), some (.int a.1), some (.int a.2.1), some (.int a.2.2.1), none] [] T a.2.2.2 v T S' := by
  intro n
  induction n with
  | zero =>
    intro a e h
    cases h
  | succ n ih =>
    intro a e h k0_
    rcases lpn_succ h with ⟨a1, ha_, hb_⟩ | ha_
    · exact tX12_key_l13b T k0 x1 a.1 a.2.1 a.2.2.1 a.2.2.2 h0 _ ha_ (fun a2 q => by cases q; exact ih a1 e hb_ k0_) (fun e1 q => by cases q)
    · exact tX12_key_l13b T k0 x1 a.1 a.2.1 a.2.2.1 a.2.2.2 h0 _ ha_ (fun a2 q => by cases q) (fun e1 q => by cases q; exact k0_ _ rfl)
set_option maxHeartbeats 4000000 in
set_option maxRecDepth 100000 in
theorem tX12_key_b91 (T : zT) (x2 : Int32) (S : zS)  {g : zG} (r : (Int32 × zS)) (h : fX12_key_b91 T x2 S = some r)  : zg g 9 mX12_key T 91 [none, none, some (.int x2), none, none, none] [] T S (some (.int r.1)) T r.2 := by
  unfold fX12_key_b91 at h
  refine z_iload_n dX12_key_91 rfl ?_
  cases h
  exact z_iret rfl dX12_key_92
set_option maxHeartbeats 4000000 in
set_option maxRecDepth 100000 in
theorem tX12_key (T : zT) (k0 : Nat) (S : zS) (h0 : iX12 T k0) (r : Int32 × zS) (h : fX12_key T k0 S = some r) : zGM 9 mX12_key [.ref k0] T S (some (.int r.1)) T r.2 := by
  refine zGM_of zpnX12 rfl (Nat.le_of_ble_eq_true rfl) (fun g => ?_)
  show zg g 9 mX12_key T 0 [some (.ref k0), none, none, none, none, none] [] T S (some (.int r.1)) T r.2
  unfold fX12_key at h
  refine z_aload_n dX12_key_0 rfl ?_
  obtain ⟨r1, S3, hc2, h⟩ := zb_elim h
  refine z_callV (As := []) zcX12 zkX12_518 ziX12_asBest zqX12_asBest h0.1 (tX12_asBest T k0 S h0 (r1, S3) hc2) rfl rfl (Nat.le_of_ble_eq_true rfl) (by decide) ⟨Nat.le_refl _, Nat.le_refl _⟩ ⟨Nat.le_refl _, Nat.le_refl _⟩ dX12_key_1 ?_
  refine z_istore_n dX12_key_4 rfl (by decide) rfl ?_
  refine z_bipush dX12_key_5 cB_m2 ?_
  refine z_istore_n dX12_key_7 rfl (by decide) rfl ?_
  refine z_iconst dX12_key_8 cI_0 ?_
  refine z_istore_n dX12_key_9 rfl (by decide) rfl ?_
  refine z_iconst dX12_key_10 cI_0 ?_
  refine z_istore dX12_key_11 rfl (by decide) rfl ?_
  obtain ⟨e18, hl19, h⟩ := zb1_elim h
  obtain ⟨nf20, hl19⟩ := lp_some hl19
  refine z_mask [true, true, true, true, true, false] rfl (tX12_key_l13 T k0 r1 h0 nf20 ((-2), 0, 0, S3) e18 hl19 (fun e_ q => ?_))
  · cases q
    exact z_mask [false, false, true, false, false, false] rfl (tX12_key_b91 T e18.1 e18.2  r h)
/-! X12_test -/
noncomputable def fX12_test_b199 (T : zT) (k0 : Nat) (x1 : Int32) (x2 : Int32) (S : zS) : Option ((Int32 × Int32 × zS) ⊕ zS) :=
  some (.inl (x1, x2, S))
noncomputable def fX12_test_b122 (T : zT) (k0 : Nat) (x2 : Int32) (s0 : Int32) (s1 : Int32) (s2 : Nat) (S : zS) : Option ((Int32 × Int32 × zS) ⊕ zS) :=
  zlet (zI S s2 2 (s1 + s0)) fun S25 => fX12_test_b199 T k0 1 x2 S25
noncomputable def fX12_test_b105 (T : zT) (k0 : Nat) (x2 : Int32) (x3 : Int32) (s0 : Int32) (s1 : Nat) (S : zS) : Option ((Int32 × Int32 × zS) ⊕ zS) :=
  zb (fX12_opens T s1 s0 S) fun _ S23 => if x3 = 0 then fX12_test_b122 T k0 x2 2 (S23.1 k0 2) k0 S23 else fX12_test_b122 T k0 x2 3 (S23.1 k0 2) k0 S23
noncomputable def fX12_test_b93 (T : zT) (k0 : Nat) (x2 : Int32) (x3 : Int32) (S : zS) : Option ((Int32 × Int32 × zS) ⊕ zS) :=
  if x3 = 0 then fX12_test_b105 T k0 x2 x3 11 k0 S else fX12_test_b105 T k0 x2 x3 10 k0 S
noncomputable def fX12_test_b82 (T : zT) (k0 : Nat) (x2 : Int32) (x3 : Int32) (x4 : Int32) (S : zS) : Option ((Int32 × Int32 × zS) ⊕ zS) :=
  if x4 = 0 then fX12_test_b93 T k0 x2 x3 S else zb (fX12_answers T k0 11 S) fun _ S28 => fX12_test_b93 T k0 x2 x3 S28
noncomputable def fX12_test_b164 (T : zT) (k0 : Nat) (x1 : Int32) (x2 : Int32) (S : zS) : Option ((Int32 × Int32 × zS) ⊕ zS) :=
  zlet (zI S k0 2 ((S.1 k0 2) + 1)) fun S39 => zlet (zI S39 k0 9 ((S39.1 k0 9) - 1)) fun S40 => zlet (zI S40 k0 7 ((S40.1 k0 7) - 1)) fun S41 => fX12_test_b199 T k0 x1 x2 S41
noncomputable def fX12_test_b36 (T : zT) (k0 : Nat) (x2 : Int32) (s0 : Int32) (S : zS) : Option ((Int32 × Int32 × zS) ⊕ zS) :=
  some (.inl (s0, x2, S))
noncomputable def fX12_test_l9 (T : zT) (k0 : Nat) (x1 : Int32) (x2 : Int32) (S : zS) : Option ((Int32 × Int32 × zS) ⊕ zS) :=
  if x2 = 0 then some (.inr S) else if (S.1 k0 3) = 0 then if x1 = 0 then zb (fX12_answers T k0 9 S) fun _ S7 => zb (fX12_blanks T k0 S7) fun _ S10 => zb1 (fX12_stands T k0 14 S10) fun r11 => zb1 (fX12_stands T k0 15 S10) fun r13 => zb (fX12_answers T k0 10 S10) fun _ S17 => if r11 = 0 then if r13 = 0 then zb (fX12_answers T k0 11 S17) fun _ S32 => zb1 (fX12_top T k0 S32) fun r33 => if r33 = 12 then zb1 (fX12_sign T k0 S32) fun r36 => if r36 = 93 then fX12_test_b164 T k0 x1 x2 S32 else zb (fX12_fails T k0 0 (S32.1 k0 2) S32) fun _ S44 => fX12_test_b164 T k0 x1 x2 S44 else fX12_test_b199 T k0 x1 0 S32 else fX12_test_b82 T k0 x2 r11 r13 S17 else fX12_test_b82 T k0 x2 r11 r13 S17 else zb (fX12_fact T k0 S) fun r45 S47 => if r45 = 0 then fX12_test_b36 T k0 x2 1 S47 else fX12_test_b36 T k0 x2 0 S47 else some (.inr S)
noncomputable def fX12_test_b202 (T : zT)  (S : zS) : Option (Unit × zS) :=
  some ((), S)
noncomputable def fX12_test (T : zT) (k0 : Nat) (S : zS) : Option (Unit × zS) :=
  zlet (zI S k0 9 0) fun S1 => zb1 (lp (fun a => fX12_test_l9 T k0 a.1 a.2.1 a.2.2) (1, 1, S1)) fun e49 => fX12_test_b202 T  e49
set_option maxHeartbeats 4000000 in
set_option maxRecDepth 100000 in
theorem tX12_test_b199 (T : zT) (k0 : Nat) (x1 : Int32) (x2 : Int32) (S : zS) (h0 : iX12 T k0) {g : zG} {v : Option Value} {S' : zS} (r : ((Int32 × Int32 × zS) ⊕ zS)) (h : fX12_test_b199 T k0 x1 x2 S = some r) (K1 : ∀ a : (Int32 × Int32 × zS), r = .inl a → zg g 10 mX12_test T 9 [some (.ref k0), some (.int a.1), some (.int a.2.1), none, none] [] T a.2.2 v T S') (K2_0 : ∀ e : zS, r = .inr e → zg g 10 mX12_test T 202 [none, none, none, none, none] [] T e v T S') : zg g 10 mX12_test T 199 [some (.ref k0), some (.int x1), some (.int x2), none, none] [] T S v T S' := by
  unfold fX12_test_b199 at h
  refine z_goto (tgt := 9) dX12_test_199 (by decide) ?_
  cases h
  exact z_mask [true, true, true, false, false] rfl (K1 _ rfl)
set_option maxHeartbeats 4000000 in
set_option maxRecDepth 100000 in
theorem tX12_test_b122 (T : zT) (k0 : Nat) (x2 : Int32) (s0 : Int32) (s1 : Int32) (s2 : Nat) (S : zS) (h0 : iX12 T k0) (g2 : iX12 T s2) {g : zG} {v : Option Value} {S' : zS} (r : ((Int32 × Int32 × zS) ⊕ zS)) (h : fX12_test_b122 T k0 x2 s0 s1 s2 S = some r) (K1 : ∀ a : (Int32 × Int32 × zS), r = .inl a → zg g 10 mX12_test T 9 [some (.ref k0), some (.int a.1), some (.int a.2.1), none, none] [] T a.2.2 v T S') (K2_0 : ∀ e : zS, r = .inr e → zg g 10 mX12_test T 202 [none, none, none, none, none] [] T e v T S') : zg g 10 mX12_test T 122 [some (.ref k0), none, some (.int x2), none, none] [.int s0, .int s1, .ref s2] T S v T S' := by
  unfold fX12_test_b122 at h
  refine z_iadd dX12_test_122 rfl ?_
  refine z_putI zfX12_190 g2.1 dX12_test_123 ?_
  obtain ⟨S25, eS25, h⟩ := zlet_elim h
  refine z_tS eS25 ?_
  refine z_iconst dX12_test_126 cI_1 ?_
  refine z_istore_n dX12_test_127 rfl (by decide) rfl ?_
  refine z_goto (tgt := 199) dX12_test_128 (by decide) ?_
  exact z_mask [true, true, true, false, false] rfl (tX12_test_b199 T k0 1 x2 S25 h0 r h K1 K2_0)
set_option maxHeartbeats 4000000 in
set_option maxRecDepth 100000 in
theorem tX12_test_b105 (T : zT) (k0 : Nat) (x2 : Int32) (x3 : Int32) (s0 : Int32) (s1 : Nat) (S : zS) (h0 : iX12 T k0) (g1 : iX12 T s1) {g : zG} {v : Option Value} {S' : zS} (r : ((Int32 × Int32 × zS) ⊕ zS)) (h : fX12_test_b105 T k0 x2 x3 s0 s1 S = some r) (K1 : ∀ a : (Int32 × Int32 × zS), r = .inl a → zg g 10 mX12_test T 9 [some (.ref k0), some (.int a.1), some (.int a.2.1), none, none] [] T a.2.2 v T S') (K2_0 : ∀ e : zS, r = .inr e → zg g 10 mX12_test T 202 [none, none, none, none, none] [] T e v T S') : zg g 10 mX12_test T 105 [some (.ref k0), none, some (.int x2), some (.int x3), none] [.int s0, .ref s1] T S v T S' := by
  unfold fX12_test_b105 at h
  obtain ⟨r21, S23, hc22, h⟩ := zb_elim h
  refine z_callV (As := [.int s0]) zcX12 zkX12_271 ziX12_opens zqX12_opens g1.1 (tX12_opens T s1 s0 S g1 (r21, S23) hc22) rfl rfl (Nat.le_of_ble_eq_true rfl) (by decide) ⟨Nat.le_refl _, Nat.le_refl _⟩ ⟨Nat.le_refl _, Nat.le_refl _⟩ dX12_test_105 ?_
  refine z_aload_n dX12_test_108 rfl ?_
  refine z_dup dX12_test_109 rfl ?_
  refine z_gI (zF.x zfX12_190) h0.1 dX12_test_110 ?_
  refine z_iload_n dX12_test_113 rfl ?_
  refine z_if_eq (tgt := 121) dX12_test_114 (by decide) (fun q24 => ?_) (fun q24 => ?_)
  · rw [if_pos q24] at h
    refine z_iconst dX12_test_121 cI_2 ?_
    exact z_mask [true, false, true, false, false] rfl (tX12_test_b122 T k0 x2 2 (S23.1 k0 2) k0 S23 h0 h0 r h K1 K2_0)
  · rw [if_neg q24] at h
    refine z_iconst dX12_test_117 cI_3 ?_
    refine z_goto (tgt := 122) dX12_test_118 (by decide) ?_
    exact z_mask [true, false, true, false, false] rfl (tX12_test_b122 T k0 x2 3 (S23.1 k0 2) k0 S23 h0 h0 r h K1 K2_0)
set_option maxHeartbeats 4000000 in
set_option maxRecDepth 100000 in
theorem tX12_test_b93 (T : zT) (k0 : Nat) (x2 : Int32) (x3 : Int32) (S : zS) (h0 : iX12 T k0) {g : zG} {v : Option Value} {S' : zS} (r : ((Int32 × Int32 × zS) ⊕ zS)) (h : fX12_test_b93 T k0 x2 x3 S = some r) (K1 : ∀ a : (Int32 × Int32 × zS), r = .inl a → zg g 10 mX12_test T 9 [some (.ref k0), some (.int a.1), some (.int a.2.1), none, none] [] T a.2.2 v T S') (K2_0 : ∀ e : zS, r = .inr e → zg g 10 mX12_test T 202 [none, none, none, none, none] [] T e v T S') : zg g 10 mX12_test T 93 [some (.ref k0), none, some (.int x2), some (.int x3), none] [] T S v T S' := by
  unfold fX12_test_b93 at h
  refine z_aload_n dX12_test_93 rfl ?_
  refine z_iload_n dX12_test_94 rfl ?_
  refine z_if_eq (tgt := 103) dX12_test_95 (by decide) (fun q20 => ?_) (fun q20 => ?_)
  · rw [if_pos q20] at h
    refine z_bipush dX12_test_103 cB_11 ?_
    exact z_mask [true, false, true, true, false] rfl (tX12_test_b105 T k0 x2 x3 11 k0 S h0 h0 r h K1 K2_0)
  · rw [if_neg q20] at h
    refine z_bipush dX12_test_98 cB_10 ?_
    refine z_goto (tgt := 105) dX12_test_100 (by decide) ?_
    exact z_mask [true, false, true, true, false] rfl (tX12_test_b105 T k0 x2 x3 10 k0 S h0 h0 r h K1 K2_0)
set_option maxHeartbeats 4000000 in
set_option maxRecDepth 100000 in
theorem tX12_test_b82 (T : zT) (k0 : Nat) (x2 : Int32) (x3 : Int32) (x4 : Int32) (S : zS) (h0 : iX12 T k0) {g : zG} {v : Option Value} {S' : zS} (r : ((Int32 × Int32 × zS) ⊕ zS)) (h : fX12_test_b82 T k0 x2 x3 x4 S = some r) (K1 : ∀ a : (Int32 × Int32 × zS), r = .inl a → zg g 10 mX12_test T 9 [some (.ref k0), some (.int a.1), some (.int a.2.1), none, none] [] T a.2.2 v T S') (K2_0 : ∀ e : zS, r = .inr e → zg g 10 mX12_test T 202 [none, none, none, none, none] [] T e v T S') : zg g 10 mX12_test T 82 [some (.ref k0), none, some (.int x2), some (.int x3), some (.int x4)] [] T S v T S' := by
  unfold fX12_test_b82 at h
  refine z_iload dX12_test_82 rfl ?_
  refine z_if_eq (tgt := 93) dX12_test_84 (by decide) (fun q19 => ?_) (fun q19 => ?_)
  · rw [if_pos q19] at h
    exact z_mask [true, false, true, true, false] rfl (tX12_test_b93 T k0 x2 x3 S h0 r h K1 K2_0)
  · rw [if_neg q19] at h
    refine z_aload_n dX12_test_87 rfl ?_
    refine z_bipush dX12_test_88 cB_11 ?_
    obtain ⟨r26, S28, hc27, h⟩ := zb_elim h
    refine z_callV (As := [.int 11]) zcX12 zkX12_280 ziX12_answers zqX12_answers h0.1 (tX12_answers T k0 11 S h0 (r26, S28) hc27) rfl rfl (Nat.le_of_ble_eq_true rfl) (by decide) ⟨Nat.le_refl _, Nat.le_refl _⟩ ⟨Nat.le_refl _, Nat.le_refl _⟩ dX12_test_90 ?_
    exact z_mask [true, false, true, true, false] rfl (tX12_test_b93 T k0 x2 x3 S28 h0 r h K1 K2_0)
set_option maxHeartbeats 4000000 in
set_option maxRecDepth 100000 in
theorem tX12_test_b164 (T : zT) (k0 : Nat) (x1 : Int32) (x2 : Int32) (S : zS) (h0 : iX12 T k0) {g : zG} {v : Option Value} {S' : zS} (r : ((Int32 × Int32 × zS) ⊕ zS)) (h : fX12_test_b164 T k0 x1 x2 S = some r) (K1 : ∀ a : (Int32 × Int32 × zS), r = .inl a → zg g 10 mX12_test T 9 [some (.ref k0), some (.int a.1), some (.int a.2.1), none, none] [] T a.2.2 v T S') (K2_0 : ∀ e : zS, r = .inr e → zg g 10 mX12_test T 202 [none, none, none, none, none] [] T e v T S') : zg g 10 mX12_test T 164 [some (.ref k0), some (.int x1), some (.int x2), none, none] [] T S v T S' := by
  unfold fX12_test_b164 at h
  refine z_aload_n dX12_test_164 rfl ?_
  refine z_dup dX12_test_165 rfl ?_
  refine z_gI (zF.x zfX12_190) h0.1 dX12_test_166 ?_
  refine z_iconst dX12_test_169 cI_1 ?_
  refine z_iadd dX12_test_170 rfl ?_
  refine z_putI zfX12_190 h0.1 dX12_test_171 ?_
  obtain ⟨S39, eS39, h⟩ := zlet_elim h
  refine z_tS eS39 ?_
  refine z_aload_n dX12_test_174 rfl ?_
  refine z_dup dX12_test_175 rfl ?_
  refine z_gI (zF.x zfX12_260) h0.1 dX12_test_176 ?_
  refine z_iconst dX12_test_179 cI_1 ?_
  refine z_isub dX12_test_180 rfl ?_
  refine z_putI zfX12_260 h0.1 dX12_test_181 ?_
  obtain ⟨S40, eS40, h⟩ := zlet_elim h
  refine z_tS eS40 ?_
  refine z_aload_n dX12_test_184 rfl ?_
  refine z_dup dX12_test_185 rfl ?_
  refine z_gI (zF.x zfX12_263) h0.1 dX12_test_186 ?_
  refine z_iconst dX12_test_189 cI_1 ?_
  refine z_isub dX12_test_190 rfl ?_
  refine z_putI zfX12_263 h0.1 dX12_test_191 ?_
  obtain ⟨S41, eS41, h⟩ := zlet_elim h
  refine z_tS eS41 ?_
  refine z_goto (tgt := 199) dX12_test_194 (by decide) ?_
  exact z_mask [true, true, true, false, false] rfl (tX12_test_b199 T k0 x1 x2 S41 h0 r h K1 K2_0)
set_option maxHeartbeats 4000000 in
set_option maxRecDepth 100000 in
theorem tX12_test_b36 (T : zT) (k0 : Nat) (x2 : Int32) (s0 : Int32) (S : zS) (h0 : iX12 T k0) {g : zG} {v : Option Value} {S' : zS} (r : ((Int32 × Int32 × zS) ⊕ zS)) (h : fX12_test_b36 T k0 x2 s0 S = some r) (K1 : ∀ a : (Int32 × Int32 × zS), r = .inl a → zg g 10 mX12_test T 9 [some (.ref k0), some (.int a.1), some (.int a.2.1), none, none] [] T a.2.2 v T S') (K2_0 : ∀ e : zS, r = .inr e → zg g 10 mX12_test T 202 [none, none, none, none, none] [] T e v T S') : zg g 10 mX12_test T 36 [some (.ref k0), none, some (.int x2), none, none] [.int s0] T S v T S' := by
  unfold fX12_test_b36 at h
  refine z_istore_n dX12_test_36 rfl (by decide) rfl ?_
  refine z_goto (tgt := 9) dX12_test_37 (by decide) ?_
  cases h
  exact z_mask [true, true, true, false, false] rfl (K1 _ rfl)
set_option maxHeartbeats 4000000 in
set_option maxRecDepth 100000 in
theorem tX12_test_l9b (T : zT) (k0 : Nat) (x1 : Int32) (x2 : Int32) (S : zS) (h0 : iX12 T k0) {g : zG} {v : Option Value} {S' : zS} (r : (Int32 × Int32 × zS) ⊕ zS) (h : fX12_test_l9 T k0 x1 x2 S = some r) (K1 : ∀ a : (Int32 × Int32 × zS), r = .inl a → zg g 10 mX12_test T 9 [some (.ref k0), some (.int a.1), some (.int a.2.1), none, none] [] T a.2.2 v T S') (K2_0 : ∀ e : zS, r = .inr e → zg g 10 mX12_test T 202 [none, none, none, none, none] [] T e v T S') : zg g 10 mX12_test T 9 [some (.ref k0), some (.int x1), some (.int x2), none, none] [] T S v T S' := by
  unfold fX12_test_l9 at h
  refine z_iload_n dX12_test_9 rfl ?_
  refine z_if_eq (tgt := 202) dX12_test_10 (by decide) (fun q2 => ?_) (fun q2 => ?_)
  · rw [if_pos q2] at h
    cases h
    exact z_mask [false, false, false, false, false] rfl (K2_0 _ rfl)
  · rw [if_neg q2] at h
    refine z_aload_n dX12_test_13 rfl ?_
    refine z_gI (zF.x zfX12_187) h0.1 dX12_test_14 ?_
    refine z_if_ne (tgt := 202) dX12_test_17 (by decide) (fun q3 => ?_) (fun q3 => ?_)
    · rw [if_neg q3] at h
      cases h
      exact z_mask [false, false, false, false, false] rfl (K2_0 _ rfl)
    · rw [if_pos q3] at h
      refine z_iload_n dX12_test_20 rfl ?_
      refine z_if_eq (tgt := 40) dX12_test_21 (by decide) (fun q4 => ?_) (fun q4 => ?_)
      · rw [if_pos q4] at h
        refine z_aload_n dX12_test_40 rfl ?_
        refine z_bipush dX12_test_41 cB_9 ?_
        obtain ⟨r5, S7, hc6, h⟩ := zb_elim h
        refine z_callV (As := [.int 9]) zcX12 zkX12_280 ziX12_answers zqX12_answers h0.1 (tX12_answers T k0 9 S h0 (r5, S7) hc6) rfl rfl (Nat.le_of_ble_eq_true rfl) (by decide) ⟨Nat.le_refl _, Nat.le_refl _⟩ ⟨Nat.le_refl _, Nat.le_refl _⟩ dX12_test_43 ?_
        refine z_aload_n dX12_test_46 rfl ?_
        obtain ⟨r8, S10, hc9, h⟩ := zb_elim h
        refine z_callV (As := []) zcX12 zkX12_213 ziX12_blanks zqX12_blanks h0.1 (tX12_blanks T k0 S7 h0 (r8, S10) hc9) rfl rfl (Nat.le_of_ble_eq_true rfl) (by decide) ⟨Nat.le_refl _, Nat.le_refl _⟩ ⟨Nat.le_refl _, Nat.le_refl _⟩ dX12_test_47 ?_
        refine z_aload_n dX12_test_50 rfl ?_
        refine z_ldcSW (i := 14) rfl dX12_test_51 ?_
        obtain ⟨r11, hc12, h⟩ := zb1_elim h
        refine z_callV (As := [.ref (10002 + 14)]) zcX12 zkX12_216 ziX12_stands zqX12_stands h0.1 (tX12_stands T k0 14 S10 h0 (by decide) r11 hc12) rfl rfl (Nat.le_of_ble_eq_true rfl) (by decide) ⟨Nat.le_refl _, Nat.le_refl _⟩ ⟨Nat.le_refl _, Nat.le_refl _⟩ dX12_test_54 ?_
        refine z_istore_n dX12_test_57 rfl (by decide) rfl ?_
        refine z_aload_n dX12_test_58 rfl ?_
        refine z_ldcSW (i := 15) rfl dX12_test_59 ?_
        obtain ⟨r13, hc14, h⟩ := zb1_elim h
        refine z_callV (As := [.ref (10002 + 15)]) zcX12 zkX12_216 ziX12_stands zqX12_stands h0.1 (tX12_stands T k0 15 S10 h0 (by decide) r13 hc14) rfl rfl (Nat.le_of_ble_eq_true rfl) (by decide) ⟨Nat.le_refl _, Nat.le_refl _⟩ ⟨Nat.le_refl _, Nat.le_refl _⟩ dX12_test_62 ?_
        refine z_istore dX12_test_65 rfl (by decide) rfl ?_
        refine z_aload_n dX12_test_67 rfl ?_
        refine z_bipush dX12_test_68 cB_10 ?_
        obtain ⟨r15, S17, hc16, h⟩ := zb_elim h
        refine z_callV (As := [.int 10]) zcX12 zkX12_280 ziX12_answers zqX12_answers h0.1 (tX12_answers T k0 10 S10 h0 (r15, S17) hc16) rfl rfl (Nat.le_of_ble_eq_true rfl) (by decide) ⟨Nat.le_refl _, Nat.le_refl _⟩ ⟨Nat.le_refl _, Nat.le_refl _⟩ dX12_test_70 ?_
        refine z_iload_n dX12_test_73 rfl ?_
        refine z_if_ne (tgt := 82) dX12_test_74 (by decide) (fun q18 => ?_) (fun q18 => ?_)
        · rw [if_neg q18] at h
          exact z_mask [true, false, true, true, true] rfl (tX12_test_b82 T k0 x2 r11 r13 S17 h0 r h K1 K2_0)
        · rw [if_pos q18] at h
          refine z_iload dX12_test_77 rfl ?_
          refine z_if_eq (tgt := 131) dX12_test_79 (by decide) (fun q29 => ?_) (fun q29 => ?_)
          · rw [if_pos q29] at h
            refine z_aload_n dX12_test_131 rfl ?_
            refine z_bipush dX12_test_132 cB_11 ?_
            obtain ⟨r30, S32, hc31, h⟩ := zb_elim h
            refine z_callV (As := [.int 11]) zcX12 zkX12_280 ziX12_answers zqX12_answers h0.1 (tX12_answers T k0 11 S17 h0 (r30, S32) hc31) rfl rfl (Nat.le_of_ble_eq_true rfl) (by decide) ⟨Nat.le_refl _, Nat.le_refl _⟩ ⟨Nat.le_refl _, Nat.le_refl _⟩ dX12_test_134 ?_
            refine z_aload_n dX12_test_137 rfl ?_
            obtain ⟨r33, hc34, h⟩ := zb1_elim h
            refine z_callV (As := []) zcX12 zkX12_266 ziX12_top zqX12_top h0.1 (tX12_top T k0 S32 h0 r33 hc34) rfl rfl (Nat.le_of_ble_eq_true rfl) (by decide) ⟨Nat.le_refl _, Nat.le_refl _⟩ ⟨Nat.le_refl _, Nat.le_refl _⟩ dX12_test_138 ?_
            refine z_bipush dX12_test_141 cB_12 ?_
            refine z_icmp_ne (tgt := 197) dX12_test_143 (by decide) (fun q35 => ?_) (fun q35 => ?_)
            · rw [if_neg q35] at h
              refine z_iconst dX12_test_197 cI_0 ?_
              refine z_istore_n dX12_test_198 rfl (by decide) rfl ?_
              exact z_mask [true, true, true, false, false] rfl (tX12_test_b199 T k0 x1 0 S32 h0 r h K1 K2_0)
            · rw [if_pos q35] at h
              refine z_aload_n dX12_test_146 rfl ?_
              obtain ⟨r36, hc37, h⟩ := zb1_elim h
              refine z_callV (As := []) zcX12 zkX12_193 ziX12_sign zqX12_sign h0.1 (tX12_sign T k0 S32 h0 r36 hc37) rfl rfl (Nat.le_of_ble_eq_true rfl) (by decide) ⟨Nat.le_refl _, Nat.le_refl _⟩ ⟨Nat.le_refl _, Nat.le_refl _⟩ dX12_test_147 ?_
              refine z_bipush dX12_test_150 cB_93 ?_
              refine z_icmp_eq (tgt := 164) dX12_test_152 (by decide) (fun q38 => ?_) (fun q38 => ?_)
              · rw [if_pos q38] at h
                exact z_mask [true, true, true, false, false] rfl (tX12_test_b164 T k0 x1 x2 S32 h0 r h K1 K2_0)
              · rw [if_neg q38] at h
                refine z_aload_n dX12_test_155 rfl ?_
                refine z_iconst dX12_test_156 cI_0 ?_
                refine z_aload_n dX12_test_157 rfl ?_
                refine z_gI (zF.x zfX12_190) h0.1 dX12_test_158 ?_
                obtain ⟨r42, S44, hc43, h⟩ := zb_elim h
                refine z_callV (As := [.int 0, .int (S32.1 k0 2)]) zcX12 zkX12_226 ziX12_fails zqX12_fails h0.1 (tX12_fails T k0 0 (S32.1 k0 2) S32 h0 (r42, S44) hc43) rfl rfl (Nat.le_of_ble_eq_true rfl) (by decide) ⟨Nat.le_refl _, Nat.le_refl _⟩ ⟨Nat.le_refl _, Nat.le_refl _⟩ dX12_test_161 ?_
                exact z_mask [true, true, true, false, false] rfl (tX12_test_b164 T k0 x1 x2 S44 h0 r h K1 K2_0)
          · rw [if_neg q29] at h
            exact z_mask [true, false, true, true, true] rfl (tX12_test_b82 T k0 x2 r11 r13 S17 h0 r h K1 K2_0)
      · rw [if_neg q4] at h
        refine z_aload_n dX12_test_24 rfl ?_
        obtain ⟨r45, S47, hc46, h⟩ := zb_elim h
        refine z_callV (As := []) zcX12 zkX12_277 ziX12_fact zqX12_fact h0.1 (tX12_fact T k0 S h0 (r45, S47) hc46) rfl rfl (Nat.le_of_ble_eq_true rfl) (by decide) ⟨Nat.le_refl _, Nat.le_refl _⟩ ⟨Nat.le_refl _, Nat.le_refl _⟩ dX12_test_25 ?_
        refine z_if_ne (tgt := 35) dX12_test_28 (by decide) (fun q48 => ?_) (fun q48 => ?_)
        · rw [if_neg q48] at h
          refine z_iconst dX12_test_35 cI_0 ?_
          exact z_mask [true, false, true, false, false] rfl (tX12_test_b36 T k0 x2 0 S47 h0 r h K1 K2_0)
        · rw [if_pos q48] at h
          refine z_iconst dX12_test_31 cI_1 ?_
          refine z_goto (tgt := 36) dX12_test_32 (by decide) ?_
          exact z_mask [true, false, true, false, false] rfl (tX12_test_b36 T k0 x2 1 S47 h0 r h K1 K2_0)
set_option maxHeartbeats 4000000 in
set_option maxRecDepth 100000 in
theorem tX12_test_l9 (T : zT) (k0 : Nat) (h0 : iX12 T k0) {g : zG} {v : Option Value} {S' : zS} : ∀ (n : Nat) (a : (Int32 × Int32 × zS)) (e : zS), lpn (fun a => fX12_test_l9 T k0 a.1 a.2.1 a.2.2) n a = some e → (∀ e1 : zS, e = e1 → zg g 10 mX12_test T 202 [none, none, none, none, none] [] T e1 v T S') → zg g 10 mX12_test T 9 [some (.ref k0), some (.int a.1), some (.int a.2.1), none, none] [] T a.2.2 v T S' := by
  intro n
  induction n with
  | zero =>
    intro a e h
    cases h
  | succ n ih =>
    intro a e h k0_
    rcases lpn_succ h with ⟨a1, ha_, hb_⟩ | ha_
    · exact tX12_test_l9b T k0 a.1 a.2.1 a.2.2 h0 _ ha_ (fun a2 q => by cases q; exact ih a1 e hb_ k0_) (fun e1 q => by cases q)
    · exact tX12_test_l9b T k0 a.1 a.2.1 a.2.2 h0 _ ha_ (fun a2 q => by cases q) (fun e1 q => by cases q; exact k0_ _ rfl)
set_option maxHeartbeats 4000000 in
set_option maxRecDepth 100000 in
theorem tX12_test_b202 (T : zT)  (S : zS)  {g : zG} (r : (Unit × zS)) (h : fX12_test_b202 T  S = some r)  : zg g 10 mX12_test T 202 [none, none, none, none, none] [] T S none T r.2 := by
  unfold fX12_test_b202 at h
  cases h
  exact z_vret rfl dX12_test_202
set_option maxHeartbeats 4000000 in
set_option maxRecDepth 100000 in
theorem tX12_test (T : zT) (k0 : Nat) (S : zS) (h0 : iX12 T k0) (r : Unit × zS) (h : fX12_test T k0 S = some r) : zGM 10 mX12_test [.ref k0] T S none T r.2 := by
  refine zGM_of zpnX12 rfl (Nat.le_of_ble_eq_true rfl) (fun g => ?_)
  show zg g 10 mX12_test T 0 [some (.ref k0), none, none, none, none] [] T S none T r.2
  unfold fX12_test at h
  refine z_aload_n dX12_test_0 rfl ?_
  refine z_iconst dX12_test_1 cI_0 ?_
  refine z_putI zfX12_260 h0.1 dX12_test_2 ?_
  obtain ⟨S1, eS1, h⟩ := zlet_elim h
  refine z_tS eS1 ?_
  refine z_iconst dX12_test_5 cI_1 ?_
  refine z_istore_n dX12_test_6 rfl (by decide) rfl ?_
  refine z_iconst dX12_test_7 cI_1 ?_
  refine z_istore_n dX12_test_8 rfl (by decide) rfl ?_
  obtain ⟨e49, hl50, h⟩ := zb1_elim h
  obtain ⟨nf51, hl50⟩ := lp_some hl50
  refine z_mask [true, true, true, false, false] rfl (tX12_test_l9 T k0 h0 nf51 (1, 1, S1) e49 hl50 (fun e_ q => ?_))
  · cases q
    exact z_mask [false, false, false, false, false] rfl (tX12_test_b202 T  e49  r h)
/-! X12_ifTest -/
noncomputable def fX12_ifTest_b21 (T : zT)  (S : zS) : Option (Unit × zS) :=
  some ((), S)
noncomputable def fX12_ifTest (T : zT) (k0 : Nat) (S : zS) : Option (Unit × zS) :=
  if (S.1 k0 3) = 0 then zb (fX12_takes T k0 12 S) fun r2 S4 => if r2 = 0 then fX12_ifTest_b21 T  S4 else zb (fX12_test T k0 S4) fun _ S8 => fX12_ifTest_b21 T  S8 else fX12_ifTest_b21 T  S
set_option maxHeartbeats 4000000 in
set_option maxRecDepth 100000 in
theorem tX12_ifTest_b21 (T : zT)  (S : zS)  {g : zG} (r : (Unit × zS)) (h : fX12_ifTest_b21 T  S = some r)  : zg g 11 mX12_ifTest T 21 [none] [] T S none T r.2 := by
  unfold fX12_ifTest_b21 at h
  cases h
  exact z_vret rfl dX12_ifTest_21
set_option maxHeartbeats 4000000 in
set_option maxRecDepth 100000 in
theorem tX12_ifTest (T : zT) (k0 : Nat) (S : zS) (h0 : iX12 T k0) (r : Unit × zS) (h : fX12_ifTest T k0 S = some r) : zGM 11 mX12_ifTest [.ref k0] T S none T r.2 := by
  refine zGM_of zpnX12 rfl (Nat.le_of_ble_eq_true rfl) (fun g => ?_)
  show zg g 11 mX12_ifTest T 0 [some (.ref k0)] [] T S none T r.2
  unfold fX12_ifTest at h
  refine z_aload_n dX12_ifTest_0 rfl ?_
  refine z_gI (zF.x zfX12_187) h0.1 dX12_ifTest_1 ?_
  refine z_if_ne (tgt := 21) dX12_ifTest_4 (by decide) (fun q1 => ?_) (fun q1 => ?_)
  · rw [if_neg q1] at h
    exact z_mask [false] rfl (tX12_ifTest_b21 T  S  r h)
  · rw [if_pos q1] at h
    refine z_aload_n dX12_ifTest_7 rfl ?_
    refine z_ldcSW (i := 12) rfl dX12_ifTest_8 ?_
    obtain ⟨r2, S4, hc3, h⟩ := zb_elim h
    refine z_callV (As := [.ref (10002 + 12)]) zcX12 zkX12_293 ziX12_takes zqX12_takes h0.1 (tX12_takes T k0 12 S h0 (by decide) (r2, S4) hc3) rfl rfl (Nat.le_of_ble_eq_true rfl) (by decide) ⟨Nat.le_refl _, Nat.le_refl _⟩ ⟨Nat.le_refl _, Nat.le_refl _⟩ dX12_ifTest_11 ?_
    refine z_if_eq (tgt := 21) dX12_ifTest_14 (by decide) (fun q5 => ?_) (fun q5 => ?_)
    · rw [if_pos q5] at h
      exact z_mask [false] rfl (tX12_ifTest_b21 T  S4  r h)
    · rw [if_neg q5] at h
      refine z_aload_n dX12_ifTest_17 rfl ?_
      obtain ⟨r6, S8, hc7, h⟩ := zb_elim h
      refine z_callV (As := []) zcX12 zkX12_296 ziX12_test zqX12_test h0.1 (tX12_test T k0 S4 h0 (r6, S8) hc7) rfl rfl (Nat.le_of_ble_eq_true rfl) (by decide) ⟨Nat.le_refl _, Nat.le_refl _⟩ ⟨Nat.le_refl _, Nat.le_refl _⟩ dX12_ifTest_18 ?_
      exact z_mask [false] rfl (tX12_ifTest_b21 T  S8  r h)
/-! X12_setClause -/
noncomputable def fX12_setClause_b63 (T : zT) (k0 : Nat) (x1 : Int32) (x2 : Int32) (x3 : Int32) (S : zS) : Option ((Int32 × Int32 × zS) ⊕ (Int32 × zS)) :=
  zlet (x2 ||| (1 <<< (x3 &&& 31))) fun u12 => zlet (zI S k0 2 ((S.1 k0 2) + 1)) fun S13 => zb (fX12_letter T k0 S13) fun r14 S16 => some (.inl (u12, r14, S16))
noncomputable def fX12_setClause_b54 (T : zT) (k0 : Nat) (x1 : Int32) (x2 : Int32) (x3 : Int32) (S : zS) : Option ((Int32 × Int32 × zS) ⊕ (Int32 × zS)) :=
  zb (fX12_fails T k0 5 (S.1 k0 2) S) fun _ S11 => fX12_setClause_b63 T k0 x1 x2 x3 S11
noncomputable def fX12_setClause_l21 (T : zT) (k0 : Nat) (x1 : Int32) (x2 : Int32) (x3 : Int32) (S : zS) : Option ((Int32 × Int32 × zS) ⊕ (Int32 × zS)) :=
  if x3 = (-1) then some (.inr (x2, S)) else if (S.1 k0 3) = 0 then zgd (zin (8 + x3) 16) (if (S.1 (zr T k0 22) ((8 + x3) : Int32).toNatClampNeg) = 0 then fX12_setClause_b54 T k0 x1 x2 x3 S else if ((x2 >>> (x3 &&& 31)) &&& 1) = 1 then fX12_setClause_b54 T k0 x1 x2 x3 S else fX12_setClause_b63 T k0 x1 x2 x3 S) else some (.inr (x2, S))
noncomputable def fX12_setClause_b113 (T : zT) (k0 : Nat) (x1 : Int32) (x2 : Int32) (S : zS) : Option (Unit × zS) :=
  zgd (zin x1 192) (zlet (zI S (zr T k0 16) (x1 : Int32).toNatClampNeg x2) fun S21 => zb (fX12_amount T k0 0 9999 S21) fun r22 S24 => zgd (zin x1 192) (zlet (zI S24 (zr T k0 17) (x1 : Int32).toNatClampNeg r22) fun S26 => zgd (zin x1 192) (zlet (zI S26 (zr T k0 19) (x1 : Int32).toNatClampNeg (S26.1 k0 6)) fun S28 => zb (fX12_ifTest T k0 S28) fun _ S31 => some ((), S31))))
noncomputable def fX12_setClause_b87 (T : zT) (k0 : Nat) (x1 : Int32) (x2 : Int32) (S : zS) : Option (Unit × zS) :=
  if (S.1 k0 3) = 0 then zb (fX12_takes T k0 25 S) fun r32 S34 => if r32 = 0 then zb (fX12_fails T k0 0 (S34.1 k0 2) S34) fun _ S38 => fX12_setClause_b113 T k0 x1 x2 S38 else fX12_setClause_b113 T k0 x1 x2 S34 else fX12_setClause_b113 T k0 x1 x2 S
noncomputable def fX12_setClause_e21 (T : zT) (k0 : Nat) (x1 : Int32) (x2 : Int32) (x3 : Int32) (S : zS) : Option (Unit × zS) :=
  zb1 (lp (fun a => fX12_setClause_l21 T k0 x1 a.1 a.2.1 a.2.2) (x2, x3, S)) fun e18 => fX12_setClause_b87 T k0 x1 e18.1 e18.2
noncomputable def fX12_setClause (T : zT) (k0 : Nat) (x1 : Int32) (S : zS) : Option (Unit × zS) :=
  zb (fX12_letter T k0 S) fun r1 S3 => if r1 = (-1) then zb (fX12_fails T k0 0 (S3.1 k0 2) S3) fun _ S43 => fX12_setClause_e21 T k0 x1 0 r1 S43 else fX12_setClause_e21 T k0 x1 0 r1 S3
set_option maxHeartbeats 4000000 in
set_option maxRecDepth 100000 in
theorem tX12_setClause_b63 (T : zT) (k0 : Nat) (x1 : Int32) (x2 : Int32) (x3 : Int32) (S : zS) (h0 : iX12 T k0) {g : zG} {v : Option Value} {S' : zS} (r : ((Int32 × Int32 × zS) ⊕ (Int32 × zS))) (h : fX12_setClause_b63 T k0 x1 x2 x3 S = some r) (K1 : ∀ a : (Int32 × Int32 × zS), r = .inl a → zg g 12 mX12_setClause T 21 [some (.ref k0), some (.int x1), some (.int a.1), some (.int a.2.1)] [] T a.2.2 v T S') (K2_0 : ∀ e : (Int32 × zS), r = .inr e → zg g 12 mX12_setClause T 87 [some (.ref k0), some (.int x1), some (.int e.1), none] [] T e.2 v T S') : zg g 12 mX12_setClause T 63 [some (.ref k0), some (.int x1), some (.int x2), some (.int x3)] [] T S v T S' := by
  unfold fX12_setClause_b63 at h
  refine z_iload_n dX12_setClause_63 rfl ?_
  refine z_iconst dX12_setClause_64 cI_1 ?_
  refine z_iload_n dX12_setClause_65 rfl ?_
  refine z_ishl dX12_setClause_66 rfl ?_
  refine z_ior dX12_setClause_67 rfl ?_
  obtain ⟨u12, eu12, h⟩ := zlet_elim h
  refine z_ti eu12 ?_
  refine z_istore_n dX12_setClause_68 rfl (by decide) rfl ?_
  refine z_aload_n dX12_setClause_69 rfl ?_
  refine z_dup dX12_setClause_70 rfl ?_
  refine z_gI (zF.x zfX12_190) h0.1 dX12_setClause_71 ?_
  refine z_iconst dX12_setClause_74 cI_1 ?_
  refine z_iadd dX12_setClause_75 rfl ?_
  refine z_putI zfX12_190 h0.1 dX12_setClause_76 ?_
  obtain ⟨S13, eS13, h⟩ := zlet_elim h
  refine z_tS eS13 ?_
  refine z_aload_n dX12_setClause_79 rfl ?_
  obtain ⟨r14, S16, hc15, h⟩ := zb_elim h
  refine z_callV (As := []) zcX12 zkX12_299 ziX12_letter zqX12_letter h0.1 (tX12_letter T k0 S13 h0 (r14, S16) hc15) rfl rfl (Nat.le_of_ble_eq_true rfl) (by decide) ⟨Nat.le_refl _, Nat.le_refl _⟩ ⟨Nat.le_refl _, Nat.le_refl _⟩ dX12_setClause_80 ?_
  refine z_istore_n dX12_setClause_83 rfl (by decide) rfl ?_
  refine z_goto (tgt := 21) dX12_setClause_84 (by decide) ?_
  cases h
  exact z_mask [true, true, true, true] rfl (K1 _ rfl)
set_option maxHeartbeats 4000000 in
set_option maxRecDepth 100000 in
theorem tX12_setClause_b54 (T : zT) (k0 : Nat) (x1 : Int32) (x2 : Int32) (x3 : Int32) (S : zS) (h0 : iX12 T k0) {g : zG} {v : Option Value} {S' : zS} (r : ((Int32 × Int32 × zS) ⊕ (Int32 × zS))) (h : fX12_setClause_b54 T k0 x1 x2 x3 S = some r) (K1 : ∀ a : (Int32 × Int32 × zS), r = .inl a → zg g 12 mX12_setClause T 21 [some (.ref k0), some (.int x1), some (.int a.1), some (.int a.2.1)] [] T a.2.2 v T S') (K2_0 : ∀ e : (Int32 × zS), r = .inr e → zg g 12 mX12_setClause T 87 [some (.ref k0), some (.int x1), some (.int e.1), none] [] T e.2 v T S') : zg g 12 mX12_setClause T 54 [some (.ref k0), some (.int x1), some (.int x2), some (.int x3)] [] T S v T S' := by
  unfold fX12_setClause_b54 at h
  refine z_aload_n dX12_setClause_54 rfl ?_
  refine z_iconst dX12_setClause_55 cI_5 ?_
  refine z_aload_n dX12_setClause_56 rfl ?_
  refine z_gI (zF.x zfX12_190) h0.1 dX12_setClause_57 ?_
  obtain ⟨r9, S11, hc10, h⟩ := zb_elim h
  refine z_callV (As := [.int 5, .int (S.1 k0 2)]) zcX12 zkX12_226 ziX12_fails zqX12_fails h0.1 (tX12_fails T k0 5 (S.1 k0 2) S h0 (r9, S11) hc10) rfl rfl (Nat.le_of_ble_eq_true rfl) (by decide) ⟨Nat.le_refl _, Nat.le_refl _⟩ ⟨Nat.le_refl _, Nat.le_refl _⟩ dX12_setClause_60 ?_
  exact z_mask [true, true, true, true] rfl (tX12_setClause_b63 T k0 x1 x2 x3 S11 h0 r h K1 K2_0)
set_option maxHeartbeats 4000000 in
set_option maxRecDepth 100000 in
theorem tX12_setClause_l21b (T : zT) (k0 : Nat) (x1 : Int32) (x2 : Int32) (x3 : Int32) (S : zS) (h0 : iX12 T k0) {g : zG} {v : Option Value} {S' : zS} (r : (Int32 × Int32 × zS) ⊕ (Int32 × zS)) (h : fX12_setClause_l21 T k0 x1 x2 x3 S = some r) (K1 : ∀ a : (Int32 × Int32 × zS), r = .inl a → zg g 12 mX12_setClause T 21 [some (.ref k0), some (.int x1), some (.int a.1), some (.int a.2.1)] [] T a.2.2 v T S') (K2_0 : ∀ e : (Int32 × zS), r = .inr e → zg g 12 mX12_setClause T 87 [some (.ref k0), some (.int x1), some (.int e.1), none] [] T e.2 v T S') : zg g 12 mX12_setClause T 21 [some (.ref k0), some (.int x1), some (.int x2), some (.int x3)] [] T S v T S' := by
  unfold fX12_setClause_l21 at h
  refine z_iload_n dX12_setClause_21 rfl ?_
  refine z_iconst dX12_setClause_22 cI_m1 ?_
  refine z_icmp_eq (tgt := 87) dX12_setClause_23 (by decide) (fun q5 => ?_) (fun q5 => ?_)
  · rw [if_pos q5] at h
    cases h
    exact z_mask [true, true, true, false] rfl (K2_0 _ rfl)
  · rw [if_neg q5] at h
    refine z_aload_n dX12_setClause_26 rfl ?_
    refine z_gI (zF.x zfX12_187) h0.1 dX12_setClause_27 ?_
    refine z_if_ne (tgt := 87) dX12_setClause_30 (by decide) (fun q6 => ?_) (fun q6 => ?_)
    · rw [if_neg q6] at h
      cases h
      exact z_mask [true, true, true, false] rfl (K2_0 _ rfl)
    · rw [if_pos q6] at h
      refine z_aload_n dX12_setClause_33 rfl ?_
      refine z_gA (zF.x zfX12_44) h0.1 dX12_setClause_34 ?_
      refine z_bipush dX12_setClause_37 cB_8 ?_
      refine z_iload_n dX12_setClause_39 rfl ?_
      refine z_iadd dX12_setClause_40 rfl ?_
      obtain ⟨q7, h⟩ := zgd_elim h
      refine z_iald h0.2.2.2.2.2.2.2.2.2.2.2.2.1 (zin_ok q7) dX12_setClause_41 ?_
      refine z_if_eq (tgt := 54) dX12_setClause_42 (by decide) (fun q8 => ?_) (fun q8 => ?_)
      · rw [if_pos q8] at h
        exact z_mask [true, true, true, true] rfl (tX12_setClause_b54 T k0 x1 x2 x3 S h0 r h K1 K2_0)
      · rw [if_neg q8] at h
        refine z_iload_n dX12_setClause_45 rfl ?_
        refine z_iload_n dX12_setClause_46 rfl ?_
        refine z_ishr dX12_setClause_47 rfl ?_
        refine z_iconst dX12_setClause_48 cI_1 ?_
        refine z_iand dX12_setClause_49 rfl ?_
        refine z_iconst dX12_setClause_50 cI_1 ?_
        refine z_icmp_ne (tgt := 63) dX12_setClause_51 (by decide) (fun q17 => ?_) (fun q17 => ?_)
        · rw [if_neg q17] at h
          exact z_mask [true, true, true, true] rfl (tX12_setClause_b63 T k0 x1 x2 x3 S h0 r h K1 K2_0)
        · rw [if_pos q17] at h
          exact z_mask [true, true, true, true] rfl (tX12_setClause_b54 T k0 x1 x2 x3 S h0 r h K1 K2_0)
set_option maxHeartbeats 4000000 in
set_option maxRecDepth 100000 in
theorem tX12_setClause_l21 (T : zT) (k0 : Nat) (x1 : Int32) (h0 : iX12 T k0) {g : zG} {v : Option Value} {S' : zS} : ∀ (n : Nat) (a : (Int32 × Int32 × zS)) (e : (Int32 × zS)), lpn (fun a => fX12_setClause_l21 T k0 x1 a.1 a.2.1 a.2.2) n a = some e → (∀ e1 : (Int32 × zS), e = e1 → zg g 12 mX12_setClause T 87 [some (.ref k0), some (.int x1), some (.int e1.1), none] [] T e1.2 v T S') → zg g 12 mX12_setClause T 21 [some (.ref k0), some (.int x1), some (.int a.1), some (.int a.2.1)] [] T a.2.2 v T S' := by
  intro n
  induction n with
  | zero =>
    intro a e h
    cases h
  | succ n ih =>
    intro a e h k0_
    rcases lpn_succ h with ⟨a1, ha_, hb_⟩ | ha_
    · exact tX12_setClause_l21b T k0 x1 a.1 a.2.1 a.2.2 h0 _ ha_ (fun a2 q => by cases q; exact ih a1 e hb_ k0_) (fun e1 q => by cases q)
    · exact tX12_setClause_l21b T k0 x1 a.1 a.2.1 a.2.2 h0 _ ha_ (fun a2 q => by cases q) (fun e1 q => by cases q; exact k0_ _ rfl)
set_option maxHeartbeats 4000000 in
set_option maxRecDepth 100000 in
theorem tX12_setClause_b113 (T : zT) (k0 : Nat) (x1 : Int32) (x2 : Int32) (S : zS) (h0 : iX12 T k0) {g : zG} (r : (Unit × zS)) (h : fX12_setClause_b113 T k0 x1 x2 S = some r)  : zg g 12 mX12_setClause T 113 [some (.ref k0), some (.int x1), some (.int x2), none] [] T S none T r.2 := by
  unfold fX12_setClause_b113 at h
  refine z_aload_n dX12_setClause_113 rfl ?_
  refine z_gA (zF.x zfX12_26) h0.1 dX12_setClause_114 ?_
  refine z_iload_n dX12_setClause_117 rfl ?_
  refine z_iload_n dX12_setClause_118 rfl ?_
  obtain ⟨q20, h⟩ := zgd_elim h
  refine z_iast h0.2.2.2.2.2.2.1 (zin_ok q20) dX12_setClause_119 ?_
  obtain ⟨S21, eS21, h⟩ := zlet_elim h
  refine z_tS eS21 ?_
  refine z_aload_n dX12_setClause_120 rfl ?_
  refine z_gA (zF.x zfX12_29) h0.1 dX12_setClause_121 ?_
  refine z_iload_n dX12_setClause_124 rfl ?_
  refine z_aload_n dX12_setClause_125 rfl ?_
  refine z_iconst dX12_setClause_126 cI_0 ?_
  refine z_sipush dX12_setClause_127 cS_9999 ?_
  obtain ⟨r22, S24, hc23, h⟩ := zb_elim h
  refine z_callV (As := [.int 0, .int 9999]) zcX12 zkX12_302 ziX12_amount zqX12_amount h0.1 (tX12_amount T k0 0 9999 S21 h0 (r22, S24) hc23) rfl rfl (Nat.le_of_ble_eq_true rfl) (by decide) ⟨Nat.le_refl _, Nat.le_refl _⟩ ⟨Nat.le_refl _, Nat.le_refl _⟩ dX12_setClause_130 ?_
  obtain ⟨q25, h⟩ := zgd_elim h
  refine z_iast h0.2.2.2.2.2.2.2.1 (zin_ok q25) dX12_setClause_133 ?_
  obtain ⟨S26, eS26, h⟩ := zlet_elim h
  refine z_tS eS26 ?_
  refine z_aload_n dX12_setClause_134 rfl ?_
  refine z_gA (zF.x zfX12_35) h0.1 dX12_setClause_135 ?_
  refine z_iload_n dX12_setClause_138 rfl ?_
  refine z_aload_n dX12_setClause_139 rfl ?_
  refine z_gI (zF.x zfX12_220) h0.1 dX12_setClause_140 ?_
  obtain ⟨q27, h⟩ := zgd_elim h
  refine z_iast h0.2.2.2.2.2.2.2.2.2.1 (zin_ok q27) dX12_setClause_143 ?_
  obtain ⟨S28, eS28, h⟩ := zlet_elim h
  refine z_tS eS28 ?_
  refine z_aload_n dX12_setClause_144 rfl ?_
  obtain ⟨r29, S31, hc30, h⟩ := zb_elim h
  refine z_callV (As := []) zcX12 zkX12_314 ziX12_ifTest zqX12_ifTest h0.1 (tX12_ifTest T k0 S28 h0 (r29, S31) hc30) rfl rfl (Nat.le_of_ble_eq_true rfl) (by decide) ⟨Nat.le_refl _, Nat.le_refl _⟩ ⟨Nat.le_refl _, Nat.le_refl _⟩ dX12_setClause_145 ?_
  cases h
  exact z_vret rfl dX12_setClause_148
set_option maxHeartbeats 4000000 in
set_option maxRecDepth 100000 in
theorem tX12_setClause_b87 (T : zT) (k0 : Nat) (x1 : Int32) (x2 : Int32) (S : zS) (h0 : iX12 T k0) {g : zG} (r : (Unit × zS)) (h : fX12_setClause_b87 T k0 x1 x2 S = some r)  : zg g 12 mX12_setClause T 87 [some (.ref k0), some (.int x1), some (.int x2), none] [] T S none T r.2 := by
  unfold fX12_setClause_b87 at h
  refine z_aload_n dX12_setClause_87 rfl ?_
  refine z_gI (zF.x zfX12_187) h0.1 dX12_setClause_88 ?_
  refine z_if_ne (tgt := 113) dX12_setClause_91 (by decide) (fun q19 => ?_) (fun q19 => ?_)
  · rw [if_neg q19] at h
    exact z_mask [true, true, true, false] rfl (tX12_setClause_b113 T k0 x1 x2 S h0 r h)
  · rw [if_pos q19] at h
    refine z_aload_n dX12_setClause_94 rfl ?_
    refine z_ldcSW (i := 25) rfl dX12_setClause_95 ?_
    obtain ⟨r32, S34, hc33, h⟩ := zb_elim h
    refine z_callV (As := [.ref (10002 + 25)]) zcX12 zkX12_293 ziX12_takes zqX12_takes h0.1 (tX12_takes T k0 25 S h0 (by decide) (r32, S34) hc33) rfl rfl (Nat.le_of_ble_eq_true rfl) (by decide) ⟨Nat.le_refl _, Nat.le_refl _⟩ ⟨Nat.le_refl _, Nat.le_refl _⟩ dX12_setClause_98 ?_
    refine z_if_ne (tgt := 113) dX12_setClause_101 (by decide) (fun q35 => ?_) (fun q35 => ?_)
    · rw [if_neg q35] at h
      exact z_mask [true, true, true, false] rfl (tX12_setClause_b113 T k0 x1 x2 S34 h0 r h)
    · rw [if_pos q35] at h
      refine z_aload_n dX12_setClause_104 rfl ?_
      refine z_iconst dX12_setClause_105 cI_0 ?_
      refine z_aload_n dX12_setClause_106 rfl ?_
      refine z_gI (zF.x zfX12_190) h0.1 dX12_setClause_107 ?_
      obtain ⟨r36, S38, hc37, h⟩ := zb_elim h
      refine z_callV (As := [.int 0, .int (S34.1 k0 2)]) zcX12 zkX12_226 ziX12_fails zqX12_fails h0.1 (tX12_fails T k0 0 (S34.1 k0 2) S34 h0 (r36, S38) hc37) rfl rfl (Nat.le_of_ble_eq_true rfl) (by decide) ⟨Nat.le_refl _, Nat.le_refl _⟩ ⟨Nat.le_refl _, Nat.le_refl _⟩ dX12_setClause_110 ?_
      exact z_mask [true, true, true, false] rfl (tX12_setClause_b113 T k0 x1 x2 S38 h0 r h)
set_option maxHeartbeats 4000000 in
set_option maxRecDepth 100000 in
theorem tX12_setClause_e21 (T : zT) (k0 : Nat) (x1 : Int32) (x2 : Int32) (x3 : Int32) (S : zS) (h0 : iX12 T k0) {g : zG} (r : (Unit × zS)) (h : fX12_setClause_e21 T k0 x1 x2 x3 S = some r)  : zg g 12 mX12_setClause T 21 [some (.ref k0), some (.int x1), some (.int x2), some (.int x3)] [] T S none T r.2 := by
  unfold fX12_setClause_e21 at h
  obtain ⟨e18, hl39, h⟩ := zb1_elim h
  obtain ⟨nf40, hl39⟩ := lp_some hl39
  refine z_mask [true, true, true, true] rfl (tX12_setClause_l21 T k0 x1 h0 nf40 (x2, x3, S) e18 hl39 (fun e_ q => ?_))
  · cases q
    exact z_mask [true, true, true, false] rfl (tX12_setClause_b87 T k0 x1 e18.1 e18.2 h0 r h)
set_option maxHeartbeats 4000000 in
set_option maxRecDepth 100000 in
theorem tX12_setClause (T : zT) (k0 : Nat) (x1 : Int32) (S : zS) (h0 : iX12 T k0) (r : Unit × zS) (h : fX12_setClause T k0 x1 S = some r) : zGM 12 mX12_setClause [.ref k0, .int x1] T S none T r.2 := by
  refine zGM_of zpnX12 rfl (Nat.le_of_ble_eq_true rfl) (fun g => ?_)
  show zg g 12 mX12_setClause T 0 [some (.ref k0), some (.int x1), none, none] [] T S none T r.2
  unfold fX12_setClause at h
  refine z_iconst dX12_setClause_0 cI_0 ?_
  refine z_istore_n dX12_setClause_1 rfl (by decide) rfl ?_
  refine z_aload_n dX12_setClause_2 rfl ?_
  obtain ⟨r1, S3, hc2, h⟩ := zb_elim h
  refine z_callV (As := []) zcX12 zkX12_299 ziX12_letter zqX12_letter h0.1 (tX12_letter T k0 S h0 (r1, S3) hc2) rfl rfl (Nat.le_of_ble_eq_true rfl) (by decide) ⟨Nat.le_refl _, Nat.le_refl _⟩ ⟨Nat.le_refl _, Nat.le_refl _⟩ dX12_setClause_3 ?_
  refine z_istore_n dX12_setClause_6 rfl (by decide) rfl ?_
  refine z_iload_n dX12_setClause_7 rfl ?_
  refine z_iconst dX12_setClause_8 cI_m1 ?_
  refine z_icmp_ne (tgt := 21) dX12_setClause_9 (by decide) (fun q4 => ?_) (fun q4 => ?_)
  · rw [if_neg q4] at h
    exact z_mask [true, true, true, true] rfl (tX12_setClause_e21 T k0 x1 0 r1 S3 h0 r h)
  · rw [if_pos q4] at h
    refine z_aload_n dX12_setClause_12 rfl ?_
    refine z_iconst dX12_setClause_13 cI_0 ?_
    refine z_aload_n dX12_setClause_14 rfl ?_
    refine z_gI (zF.x zfX12_190) h0.1 dX12_setClause_15 ?_
    obtain ⟨r41, S43, hc42, h⟩ := zb_elim h
    refine z_callV (As := [.int 0, .int (S3.1 k0 2)]) zcX12 zkX12_226 ziX12_fails zqX12_fails h0.1 (tX12_fails T k0 0 (S3.1 k0 2) S3 h0 (r41, S43) hc42) rfl rfl (Nat.le_of_ble_eq_true rfl) (by decide) ⟨Nat.le_refl _, Nat.le_refl _⟩ ⟨Nat.le_refl _, Nat.le_refl _⟩ dX12_setClause_18 ?_
    exact z_mask [true, true, true, true] rfl (tX12_setClause_e21 T k0 x1 0 r1 S43 h0 r h)
/-! X12_ruleClause -/
noncomputable def fX12_ruleClause_b71 (T : zT) (k0 : Nat) (x2 : Int32) (S : zS) : Option (Unit × zS) :=
  zb (fX12_fails T k0 4 x2 S) fun _ S15 => some ((), S15)
noncomputable def fX12_ruleClause_b164 (T : zT) (k0 : Nat) (x4 : Int32) (S : zS) : Option (Unit × zS) :=
  zgd (zin x4 192) (zlet (zI S (zr T k0 20) (x4 : Int32).toNatClampNeg (S.1 k0 6)) fun S31 => some ((), S31))
noncomputable def fX12_ruleClause_b145 (T : zT) (k0 : Nat) (x3 : Int32) (x4 : Int32) (S : zS) : Option (Unit × zS) :=
  zgd (zin x4 192) (zlet (zI S (zr T k0 19) (x4 : Int32).toNatClampNeg (S.1 k0 6)) fun S28 => if x3 = 0 then zb (fX12_ifTest T k0 S28) fun _ S34 => fX12_ruleClause_b164 T k0 x4 S34 else fX12_ruleClause_b164 T k0 x4 S28)
noncomputable def fX12_ruleClause_b78 (T : zT) (k0 : Nat) (x1 : Int32) (x3 : Int32) (S : zS) : Option (Unit × zS) :=
  zlet (zI S k0 2 ((S.1 k0 2) + 4)) fun S17 => zlet ((24 * (S17.1 k0 4)) + x1) fun u18 => zgd (zin u18 192) (zlet (zI S17 (zr T k0 15) (u18 : Int32).toNatClampNeg x3) fun S20 => zgd (zin u18 192) (zlet (zI S20 (zr T k0 18) (u18 : Int32).toNatClampNeg (S20.1 k0 6)) fun S22 => if x3 = 1 then zb (fX12_amount T k0 0 9999 S22) fun r35 S37 => zgd (zin u18 192) (zlet (zI S37 (zr T k0 17) (u18 : Int32).toNatClampNeg r35) fun S39 => fX12_ruleClause_b145 T k0 x3 u18 S39) else zb (fX12_sum T k0 S22) fun _ S26 => fX12_ruleClause_b145 T k0 x3 u18 S26))
noncomputable def fX12_ruleClause_b38 (T : zT) (k0 : Nat) (x1 : Int32) (x2 : Int32) (s0 : Int32) (S : zS) : Option (Unit × zS) :=
  if s0 = (-1) then zb (fX12_fails T k0 0 x2 S) fun _ S45 => some ((), S45) else if x1 = 12 then fX12_ruleClause_b71 T k0 x2 S else if s0 = 1 then zb1 (fX12_wasTold T k0 x1 s0 S) fun r40 => if r40 = 0 then fX12_ruleClause_b78 T k0 x1 s0 S else fX12_ruleClause_b71 T k0 x2 S else fX12_ruleClause_b78 T k0 x1 s0 S
noncomputable def fX12_ruleClause (T : zT) (k0 : Nat) (x1 : Int32) (S : zS) : Option (Unit × zS) :=
  zb (fX12_blanks T k0 S) fun _ S3 => zlet (S3.1 k0 2) fun u4 => zb1 (fX12_stands T k0 1 S3) fun r5 => if r5 = 0 then zb1 (fX12_stands T k0 2 S3) fun r8 => if r8 = 0 then fX12_ruleClause_b38 T k0 x1 u4 (-1) S3 else fX12_ruleClause_b38 T k0 x1 u4 1 S3 else fX12_ruleClause_b38 T k0 x1 u4 0 S3
set_option maxHeartbeats 4000000 in
set_option maxRecDepth 100000 in
theorem tX12_ruleClause_b71 (T : zT) (k0 : Nat) (x2 : Int32) (S : zS) (h0 : iX12 T k0) {g : zG} (r : (Unit × zS)) (h : fX12_ruleClause_b71 T k0 x2 S = some r)  : zg g 12 mX12_ruleClause T 71 [some (.ref k0), none, some (.int x2), none, none] [] T S none T r.2 := by
  unfold fX12_ruleClause_b71 at h
  refine z_aload_n dX12_ruleClause_71 rfl ?_
  refine z_iconst dX12_ruleClause_72 cI_4 ?_
  refine z_iload_n dX12_ruleClause_73 rfl ?_
  obtain ⟨r13, S15, hc14, h⟩ := zb_elim h
  refine z_callV (As := [.int 4, .int x2]) zcX12 zkX12_226 ziX12_fails zqX12_fails h0.1 (tX12_fails T k0 4 x2 S h0 (r13, S15) hc14) rfl rfl (Nat.le_of_ble_eq_true rfl) (by decide) ⟨Nat.le_refl _, Nat.le_refl _⟩ ⟨Nat.le_refl _, Nat.le_refl _⟩ dX12_ruleClause_74 ?_
  cases h
  exact z_vret rfl dX12_ruleClause_77
set_option maxHeartbeats 4000000 in
set_option maxRecDepth 100000 in
theorem tX12_ruleClause_b164 (T : zT) (k0 : Nat) (x4 : Int32) (S : zS) (h0 : iX12 T k0) {g : zG} (r : (Unit × zS)) (h : fX12_ruleClause_b164 T k0 x4 S = some r)  : zg g 12 mX12_ruleClause T 164 [some (.ref k0), none, none, none, some (.int x4)] [] T S none T r.2 := by
  unfold fX12_ruleClause_b164 at h
  refine z_aload_n dX12_ruleClause_164 rfl ?_
  refine z_gA (zF.x zfX12_38) h0.1 dX12_ruleClause_165 ?_
  refine z_iload dX12_ruleClause_168 rfl ?_
  refine z_aload_n dX12_ruleClause_170 rfl ?_
  refine z_gI (zF.x zfX12_220) h0.1 dX12_ruleClause_171 ?_
  obtain ⟨q30, h⟩ := zgd_elim h
  refine z_iast h0.2.2.2.2.2.2.2.2.2.2.1 (zin_ok q30) dX12_ruleClause_174 ?_
  obtain ⟨S31, eS31, h⟩ := zlet_elim h
  refine z_tS eS31 ?_
  cases h
  exact z_vret rfl dX12_ruleClause_175
set_option maxHeartbeats 4000000 in
set_option maxRecDepth 100000 in
theorem tX12_ruleClause_b145 (T : zT) (k0 : Nat) (x3 : Int32) (x4 : Int32) (S : zS) (h0 : iX12 T k0) {g : zG} (r : (Unit × zS)) (h : fX12_ruleClause_b145 T k0 x3 x4 S = some r)  : zg g 12 mX12_ruleClause T 145 [some (.ref k0), none, none, some (.int x3), some (.int x4)] [] T S none T r.2 := by
  unfold fX12_ruleClause_b145 at h
  refine z_aload_n dX12_ruleClause_145 rfl ?_
  refine z_gA (zF.x zfX12_35) h0.1 dX12_ruleClause_146 ?_
  refine z_iload dX12_ruleClause_149 rfl ?_
  refine z_aload_n dX12_ruleClause_151 rfl ?_
  refine z_gI (zF.x zfX12_220) h0.1 dX12_ruleClause_152 ?_
  obtain ⟨q27, h⟩ := zgd_elim h
  refine z_iast h0.2.2.2.2.2.2.2.2.2.1 (zin_ok q27) dX12_ruleClause_155 ?_
  obtain ⟨S28, eS28, h⟩ := zlet_elim h
  refine z_tS eS28 ?_
  refine z_iload_n dX12_ruleClause_156 rfl ?_
  refine z_if_ne (tgt := 164) dX12_ruleClause_157 (by decide) (fun q29 => ?_) (fun q29 => ?_)
  · rw [if_neg q29] at h
    exact z_mask [true, false, false, false, true] rfl (tX12_ruleClause_b164 T k0 x4 S28 h0 r h)
  · rw [if_pos q29] at h
    refine z_aload_n dX12_ruleClause_160 rfl ?_
    obtain ⟨r32, S34, hc33, h⟩ := zb_elim h
    refine z_callV (As := []) zcX12 zkX12_314 ziX12_ifTest zqX12_ifTest h0.1 (tX12_ifTest T k0 S28 h0 (r32, S34) hc33) rfl rfl (Nat.le_of_ble_eq_true rfl) (by decide) ⟨Nat.le_refl _, Nat.le_refl _⟩ ⟨Nat.le_refl _, Nat.le_refl _⟩ dX12_ruleClause_161 ?_
    exact z_mask [true, false, false, false, true] rfl (tX12_ruleClause_b164 T k0 x4 S34 h0 r h)
set_option maxHeartbeats 4000000 in
set_option maxRecDepth 100000 in
theorem tX12_ruleClause_b78 (T : zT) (k0 : Nat) (x1 : Int32) (x3 : Int32) (S : zS) (h0 : iX12 T k0) {g : zG} (r : (Unit × zS)) (h : fX12_ruleClause_b78 T k0 x1 x3 S = some r)  : zg g 12 mX12_ruleClause T 78 [some (.ref k0), some (.int x1), none, some (.int x3), none] [] T S none T r.2 := by
  unfold fX12_ruleClause_b78 at h
  refine z_aload_n dX12_ruleClause_78 rfl ?_
  refine z_dup dX12_ruleClause_79 rfl ?_
  refine z_gI (zF.x zfX12_190) h0.1 dX12_ruleClause_80 ?_
  refine z_iconst dX12_ruleClause_83 cI_4 ?_
  refine z_iadd dX12_ruleClause_84 rfl ?_
  refine z_putI zfX12_190 h0.1 dX12_ruleClause_85 ?_
  obtain ⟨S17, eS17, h⟩ := zlet_elim h
  refine z_tS eS17 ?_
  refine z_bipush dX12_ruleClause_88 cB_24 ?_
  refine z_aload_n dX12_ruleClause_90 rfl ?_
  refine z_gI (zF.x zfX12_153) h0.1 dX12_ruleClause_91 ?_
  refine z_imul dX12_ruleClause_94 rfl ?_
  refine z_iload_n dX12_ruleClause_95 rfl ?_
  refine z_iadd dX12_ruleClause_96 rfl ?_
  obtain ⟨u18, eu18, h⟩ := zlet_elim h
  refine z_ti eu18 ?_
  refine z_istore dX12_ruleClause_97 rfl (by decide) rfl ?_
  refine z_aload_n dX12_ruleClause_99 rfl ?_
  refine z_gA (zF.x zfX12_23) h0.1 dX12_ruleClause_100 ?_
  refine z_iload dX12_ruleClause_103 rfl ?_
  refine z_iload_n dX12_ruleClause_105 rfl ?_
  obtain ⟨q19, h⟩ := zgd_elim h
  refine z_iast h0.2.2.2.2.2.1 (zin_ok q19) dX12_ruleClause_106 ?_
  obtain ⟨S20, eS20, h⟩ := zlet_elim h
  refine z_tS eS20 ?_
  refine z_aload_n dX12_ruleClause_107 rfl ?_
  refine z_gA (zF.x zfX12_32) h0.1 dX12_ruleClause_108 ?_
  refine z_iload dX12_ruleClause_111 rfl ?_
  refine z_aload_n dX12_ruleClause_113 rfl ?_
  refine z_gI (zF.x zfX12_220) h0.1 dX12_ruleClause_114 ?_
  obtain ⟨q21, h⟩ := zgd_elim h
  refine z_iast h0.2.2.2.2.2.2.2.2.1 (zin_ok q21) dX12_ruleClause_117 ?_
  obtain ⟨S22, eS22, h⟩ := zlet_elim h
  refine z_tS eS22 ?_
  refine z_iload_n dX12_ruleClause_118 rfl ?_
  refine z_iconst dX12_ruleClause_119 cI_1 ?_
  refine z_icmp_ne (tgt := 141) dX12_ruleClause_120 (by decide) (fun q23 => ?_) (fun q23 => ?_)
  · rw [if_neg q23] at h
    refine z_aload_n dX12_ruleClause_141 rfl ?_
    obtain ⟨r24, S26, hc25, h⟩ := zb_elim h
    refine z_callV (As := []) zcX12 zkX12_257 ziX12_sum zqX12_sum h0.1 (tX12_sum T k0 S22 h0 (r24, S26) hc25) rfl rfl (Nat.le_of_ble_eq_true rfl) (by decide) ⟨Nat.le_refl _, Nat.le_refl _⟩ ⟨Nat.le_refl _, Nat.le_refl _⟩ dX12_ruleClause_142 ?_
    exact z_mask [true, false, false, true, true] rfl (tX12_ruleClause_b145 T k0 x3 u18 S26 h0 r h)
  · rw [if_pos q23] at h
    refine z_aload_n dX12_ruleClause_123 rfl ?_
    refine z_gA (zF.x zfX12_29) h0.1 dX12_ruleClause_124 ?_
    refine z_iload dX12_ruleClause_127 rfl ?_
    refine z_aload_n dX12_ruleClause_129 rfl ?_
    refine z_iconst dX12_ruleClause_130 cI_0 ?_
    refine z_sipush dX12_ruleClause_131 cS_9999 ?_
    obtain ⟨r35, S37, hc36, h⟩ := zb_elim h
    refine z_callV (As := [.int 0, .int 9999]) zcX12 zkX12_302 ziX12_amount zqX12_amount h0.1 (tX12_amount T k0 0 9999 S22 h0 (r35, S37) hc36) rfl rfl (Nat.le_of_ble_eq_true rfl) (by decide) ⟨Nat.le_refl _, Nat.le_refl _⟩ ⟨Nat.le_refl _, Nat.le_refl _⟩ dX12_ruleClause_134 ?_
    obtain ⟨q38, h⟩ := zgd_elim h
    refine z_iast h0.2.2.2.2.2.2.2.1 (zin_ok q38) dX12_ruleClause_137 ?_
    obtain ⟨S39, eS39, h⟩ := zlet_elim h
    refine z_tS eS39 ?_
    refine z_goto (tgt := 145) dX12_ruleClause_138 (by decide) ?_
    exact z_mask [true, false, false, true, true] rfl (tX12_ruleClause_b145 T k0 x3 u18 S39 h0 r h)
set_option maxHeartbeats 4000000 in
set_option maxRecDepth 100000 in
theorem tX12_ruleClause_b38 (T : zT) (k0 : Nat) (x1 : Int32) (x2 : Int32) (s0 : Int32) (S : zS) (h0 : iX12 T k0) {g : zG} (r : (Unit × zS)) (h : fX12_ruleClause_b38 T k0 x1 x2 s0 S = some r)  : zg g 12 mX12_ruleClause T 38 [some (.ref k0), some (.int x1), some (.int x2), none, none] [.int s0] T S none T r.2 := by
  unfold fX12_ruleClause_b38 at h
  refine z_istore_n dX12_ruleClause_38 rfl (by decide) rfl ?_
  refine z_iload_n dX12_ruleClause_39 rfl ?_
  refine z_iconst dX12_ruleClause_40 cI_m1 ?_
  refine z_icmp_ne (tgt := 51) dX12_ruleClause_41 (by decide) (fun q11 => ?_) (fun q11 => ?_)
  · rw [if_neg q11] at h
    refine z_iload_n dX12_ruleClause_51 rfl ?_
    refine z_bipush dX12_ruleClause_52 cB_12 ?_
    refine z_icmp_eq (tgt := 71) dX12_ruleClause_54 (by decide) (fun q12 => ?_) (fun q12 => ?_)
    · rw [if_pos q12] at h
      exact z_mask [true, false, true, false, false] rfl (tX12_ruleClause_b71 T k0 x2 S h0 r h)
    · rw [if_neg q12] at h
      refine z_iload_n dX12_ruleClause_57 rfl ?_
      refine z_iconst dX12_ruleClause_58 cI_1 ?_
      refine z_icmp_ne (tgt := 78) dX12_ruleClause_59 (by decide) (fun q16 => ?_) (fun q16 => ?_)
      · rw [if_neg q16] at h
        exact z_mask [true, true, false, true, false] rfl (tX12_ruleClause_b78 T k0 x1 s0 S h0 r h)
      · rw [if_pos q16] at h
        refine z_aload_n dX12_ruleClause_62 rfl ?_
        refine z_iload_n dX12_ruleClause_63 rfl ?_
        refine z_iload_n dX12_ruleClause_64 rfl ?_
        obtain ⟨r40, hc41, h⟩ := zb1_elim h
        refine z_callV (As := [.int x1, .int s0]) zcX12 zkX12_321 ziX12_wasTold zqX12_wasTold h0.1 (tX12_wasTold T k0 x1 s0 S h0 r40 hc41) rfl rfl (Nat.le_of_ble_eq_true rfl) (by decide) ⟨Nat.le_refl _, Nat.le_refl _⟩ ⟨Nat.le_refl _, Nat.le_refl _⟩ dX12_ruleClause_65 ?_
        refine z_if_eq (tgt := 78) dX12_ruleClause_68 (by decide) (fun q42 => ?_) (fun q42 => ?_)
        · rw [if_pos q42] at h
          exact z_mask [true, true, false, true, false] rfl (tX12_ruleClause_b78 T k0 x1 s0 S h0 r h)
        · rw [if_neg q42] at h
          exact z_mask [true, false, true, false, false] rfl (tX12_ruleClause_b71 T k0 x2 S h0 r h)
  · rw [if_pos q11] at h
    refine z_aload_n dX12_ruleClause_44 rfl ?_
    refine z_iconst dX12_ruleClause_45 cI_0 ?_
    refine z_iload_n dX12_ruleClause_46 rfl ?_
    obtain ⟨r43, S45, hc44, h⟩ := zb_elim h
    refine z_callV (As := [.int 0, .int x2]) zcX12 zkX12_226 ziX12_fails zqX12_fails h0.1 (tX12_fails T k0 0 x2 S h0 (r43, S45) hc44) rfl rfl (Nat.le_of_ble_eq_true rfl) (by decide) ⟨Nat.le_refl _, Nat.le_refl _⟩ ⟨Nat.le_refl _, Nat.le_refl _⟩ dX12_ruleClause_47 ?_
    cases h
    exact z_vret rfl dX12_ruleClause_50
set_option maxHeartbeats 4000000 in
set_option maxRecDepth 100000 in
theorem tX12_ruleClause (T : zT) (k0 : Nat) (x1 : Int32) (S : zS) (h0 : iX12 T k0) (r : Unit × zS) (h : fX12_ruleClause T k0 x1 S = some r) : zGM 12 mX12_ruleClause [.ref k0, .int x1] T S none T r.2 := by
  refine zGM_of zpnX12 rfl (Nat.le_of_ble_eq_true rfl) (fun g => ?_)
  show zg g 12 mX12_ruleClause T 0 [some (.ref k0), some (.int x1), none, none, none] [] T S none T r.2
  unfold fX12_ruleClause at h
  refine z_aload_n dX12_ruleClause_0 rfl ?_
  obtain ⟨r1, S3, hc2, h⟩ := zb_elim h
  refine z_callV (As := []) zcX12 zkX12_213 ziX12_blanks zqX12_blanks h0.1 (tX12_blanks T k0 S h0 (r1, S3) hc2) rfl rfl (Nat.le_of_ble_eq_true rfl) (by decide) ⟨Nat.le_refl _, Nat.le_refl _⟩ ⟨Nat.le_refl _, Nat.le_refl _⟩ dX12_ruleClause_1 ?_
  refine z_aload_n dX12_ruleClause_4 rfl ?_
  refine z_gI (zF.x zfX12_190) h0.1 dX12_ruleClause_5 ?_
  obtain ⟨u4, eu4, h⟩ := zlet_elim h
  refine z_ti eu4 ?_
  refine z_istore_n dX12_ruleClause_8 rfl (by decide) rfl ?_
  refine z_aload_n dX12_ruleClause_9 rfl ?_
  refine z_ldcSW (i := 1) rfl dX12_ruleClause_10 ?_
  obtain ⟨r5, hc6, h⟩ := zb1_elim h
  refine z_callV (As := [.ref (10002 + 1)]) zcX12 zkX12_216 ziX12_stands zqX12_stands h0.1 (tX12_stands T k0 1 S3 h0 (by decide) r5 hc6) rfl rfl (Nat.le_of_ble_eq_true rfl) (by decide) ⟨Nat.le_refl _, Nat.le_refl _⟩ ⟨Nat.le_refl _, Nat.le_refl _⟩ dX12_ruleClause_13 ?_
  refine z_if_eq (tgt := 23) dX12_ruleClause_16 (by decide) (fun q7 => ?_) (fun q7 => ?_)
  · rw [if_pos q7] at h
    refine z_aload_n dX12_ruleClause_23 rfl ?_
    refine z_ldcSW (i := 2) rfl dX12_ruleClause_24 ?_
    obtain ⟨r8, hc9, h⟩ := zb1_elim h
    refine z_callV (As := [.ref (10002 + 2)]) zcX12 zkX12_216 ziX12_stands zqX12_stands h0.1 (tX12_stands T k0 2 S3 h0 (by decide) r8 hc9) rfl rfl (Nat.le_of_ble_eq_true rfl) (by decide) ⟨Nat.le_refl _, Nat.le_refl _⟩ ⟨Nat.le_refl _, Nat.le_refl _⟩ dX12_ruleClause_27 ?_
    refine z_if_eq (tgt := 37) dX12_ruleClause_30 (by decide) (fun q10 => ?_) (fun q10 => ?_)
    · rw [if_pos q10] at h
      refine z_iconst dX12_ruleClause_37 cI_m1 ?_
      exact z_mask [true, true, true, false, false] rfl (tX12_ruleClause_b38 T k0 x1 u4 (-1) S3 h0 r h)
    · rw [if_neg q10] at h
      refine z_iconst dX12_ruleClause_33 cI_1 ?_
      refine z_goto (tgt := 38) dX12_ruleClause_34 (by decide) ?_
      exact z_mask [true, true, true, false, false] rfl (tX12_ruleClause_b38 T k0 x1 u4 1 S3 h0 r h)
  · rw [if_neg q7] at h
    refine z_iconst dX12_ruleClause_19 cI_0 ?_
    refine z_goto (tgt := 38) dX12_ruleClause_20 (by decide) ?_
    exact z_mask [true, true, true, false, false] rfl (tX12_ruleClause_b38 T k0 x1 u4 0 S3 h0 r h)
/-! X12_bookClause -/
noncomputable def fX12_bookClause_l11 (T : zT) (k0 : Nat) (x1 : Int32) (x2 : Int32) (S : zS) (x3 : Int32) : Option (Int32 ⊕ Int32) :=
  if 7 ≤ x3 then some (.inr x3) else zb1 (fX12_clauseOf T x3 S) fun r6 => zb1 (fX12_stands T k0 r6 S) fun r8 => if r8 = 0 then zlet (x3 + 1) fun u11 => some (.inl u11) else some (.inr x3)
noncomputable def fX12_bookClause_b67 (T : zT) (k0 : Nat) (x2 : Int32) (S : zS) : Option (Unit × zS) :=
  zb (fX12_fails T k0 4 x2 S) fun _ S17 => some ((), S17)
noncomputable def fX12_bookClause_b177 (T : zT) (k0 : Nat) (x4 : Int32) (S : zS) : Option (Unit × zS) :=
  zgd (zin x4 192) (zlet (zI S (zr T k0 20) (x4 : Int32).toNatClampNeg (S.1 k0 6)) fun S34 => some ((), S34))
noncomputable def fX12_bookClause_b74 (T : zT) (k0 : Nat) (x1 : Int32) (x3 : Int32) (S : zS) : Option (Unit × zS) :=
  zb1 (fX12_clauseOf T x3 S) fun r19 => zlet (zI S k0 2 ((S.1 k0 2) + (zsL r19))) fun S21 => zlet ((24 * (S21.1 k0 4)) + x1) fun u22 => zgd (zin u22 192) (zlet (zI S21 (zr T k0 15) (u22 : Int32).toNatClampNeg x3) fun S24 => zgd (zin u22 192) (zlet (zI S24 (zr T k0 19) (u22 : Int32).toNatClampNeg (S24.1 k0 6)) fun S26 => if x3 = 0 then zb (fX12_thingClause T k0 S26) fun _ S48 => fX12_bookClause_b177 T k0 u22 S48 else if x3 = 1 then zb (fX12_setClause T k0 u22 S26) fun _ S45 => fX12_bookClause_b177 T k0 u22 S45 else if x3 = 2 then zb (fX12_amount T k0 0 9999 S26) fun r35 S37 => zgd (zin u22 192) (zlet (zI S37 (zr T k0 17) (u22 : Int32).toNatClampNeg r35) fun S39 => zb (fX12_ifTest T k0 S39) fun _ S42 => fX12_bookClause_b177 T k0 u22 S42) else zb (fX12_onceClause T k0 x3 S26) fun _ S32 => fX12_bookClause_b177 T k0 u22 S32))
noncomputable def fX12_bookClause_b34 (T : zT) (k0 : Nat) (x1 : Int32) (x2 : Int32) (x3 : Int32) (S : zS) : Option (Unit × zS) :=
  if x3 = 7 then zb (fX12_fails T k0 0 x2 S) fun _ S54 => some ((), S54) else if x1 = 24 then fX12_bookClause_b67 T k0 x2 S else if x3 ≤ 2 then fX12_bookClause_b74 T k0 x1 x3 S else zb1 (fX12_wasTold T k0 x1 x3 S) fun r49 => if r49 = 0 then fX12_bookClause_b74 T k0 x1 x3 S else fX12_bookClause_b67 T k0 x2 S
noncomputable def fX12_bookClause (T : zT) (k0 : Nat) (x1 : Int32) (S : zS) : Option (Unit × zS) :=
  zb (fX12_blanks T k0 S) fun _ S3 => zlet (S3.1 k0 2) fun u4 => zb1 (lp (fun a => fX12_bookClause_l11 T k0 x1 u4 S3 a) 0) fun e12 => fX12_bookClause_b34 T k0 x1 u4 e12 S3
set_option maxHeartbeats 4000000 in
set_option maxRecDepth 100000 in
theorem tX12_bookClause_l11b (T : zT) (k0 : Nat) (x1 : Int32) (x2 : Int32) (S : zS) (x3 : Int32) (h0 : iX12 T k0) {g : zG} {v : Option Value} {S' : zS} (r : Int32 ⊕ Int32) (h : fX12_bookClause_l11 T k0 x1 x2 S x3 = some r) (K1 : ∀ a : Int32, r = .inl a → zg g 13 mX12_bookClause T 11 [some (.ref k0), some (.int x1), some (.int x2), some (.int a), none] [] T S v T S') (K2_0 : ∀ e : Int32, r = .inr e → zg g 13 mX12_bookClause T 34 [some (.ref k0), some (.int x1), some (.int x2), some (.int e), none] [] T S v T S') : zg g 13 mX12_bookClause T 11 [some (.ref k0), some (.int x1), some (.int x2), some (.int x3), none] [] T S v T S' := by
  unfold fX12_bookClause_l11 at h
  refine z_iload_n dX12_bookClause_11 rfl ?_
  refine z_bipush dX12_bookClause_12 cB_7 ?_
  refine z_icmp_ge (tgt := 34) dX12_bookClause_14 (by decide) (fun q5 => ?_) (fun q5 => ?_)
  · rw [if_pos q5] at h
    cases h
    exact z_mask [true, true, true, true, false] rfl (K2_0 _ rfl)
  · rw [if_neg q5] at h
    refine z_aload_n dX12_bookClause_17 rfl ?_
    refine z_iload_n dX12_bookClause_18 rfl ?_
    obtain ⟨r6, hc7, h⟩ := zb1_elim h
    refine z_callS (As := [.int x3]) zkX12_318 zsX12_clauseOf (tX12_clauseOf T x3 S  r6 hc7) rfl rfl (Nat.le_of_ble_eq_true rfl) (by decide) ⟨Nat.le_refl _, Nat.le_refl _⟩ ⟨Nat.le_refl _, Nat.le_refl _⟩ dX12_bookClause_19 ?_
    obtain ⟨r8, hc9, h⟩ := zb1_elim h
    refine z_callV (As := [.ref (10002 + r6)]) zcX12 zkX12_216 ziX12_stands zqX12_stands h0.1 (tX12_stands T k0 r6 S h0 (uX12_clauseOf T x3 S  r6 hc7) r8 hc9) rfl rfl (Nat.le_of_ble_eq_true rfl) (by decide) ⟨Nat.le_refl _, Nat.le_refl _⟩ ⟨Nat.le_refl _, Nat.le_refl _⟩ dX12_bookClause_22 ?_
    refine z_if_ne (tgt := 34) dX12_bookClause_25 (by decide) (fun q10 => ?_) (fun q10 => ?_)
    · rw [if_neg q10] at h
      cases h
      exact z_mask [true, true, true, true, false] rfl (K2_0 _ rfl)
    · rw [if_pos q10] at h
      obtain ⟨u11, eu11, h⟩ := zlet_elim h
      refine z_iinc (r := u11) dX12_bookClause_28 rfl (by rw [eu11, cI_1]) rfl (by decide) rfl ?_
      refine z_goto (tgt := 11) dX12_bookClause_31 (by decide) ?_
      cases h
      exact z_mask [true, true, true, true, false] rfl (K1 _ rfl)
set_option maxHeartbeats 4000000 in
set_option maxRecDepth 100000 in
theorem tX12_bookClause_l11 (T : zT) (k0 : Nat) (x1 : Int32) (x2 : Int32) (S : zS) (h0 : iX12 T k0) {g : zG} {v : Option Value} {S' : zS} : ∀ (n : Nat) (a : Int32) (e : Int32), lpn (fun a => fX12_bookClause_l11 T k0 x1 x2 S a) n a = some e → (∀ e1 : Int32, e = e1 → zg g 13 mX12_bookClause T 34 [some (.ref k0), some (.int x1), some (.int x2), some (.int e1), none] [] T S v T S') → zg g 13 mX12_bookClause T 11 [some (.ref k0), some (.int x1), some (.int x2), some (.int a), none] [] T S v T S' := by
  intro n
  induction n with
  | zero =>
    intro a e h
    cases h
  | succ n ih =>
    intro a e h k0_
    rcases lpn_succ h with ⟨a1, ha_, hb_⟩ | ha_
    · exact tX12_bookClause_l11b T k0 x1 x2 S a h0 _ ha_ (fun a2 q => by cases q; exact ih a1 e hb_ k0_) (fun e1 q => by cases q)
    · exact tX12_bookClause_l11b T k0 x1 x2 S a h0 _ ha_ (fun a2 q => by cases q) (fun e1 q => by cases q; exact k0_ _ rfl)
set_option maxHeartbeats 4000000 in
set_option maxRecDepth 100000 in
theorem tX12_bookClause_b67 (T : zT) (k0 : Nat) (x2 : Int32) (S : zS) (h0 : iX12 T k0) {g : zG} (r : (Unit × zS)) (h : fX12_bookClause_b67 T k0 x2 S = some r)  : zg g 13 mX12_bookClause T 67 [some (.ref k0), none, some (.int x2), none, none] [] T S none T r.2 := by
  unfold fX12_bookClause_b67 at h
  refine z_aload_n dX12_bookClause_67 rfl ?_
  refine z_iconst dX12_bookClause_68 cI_4 ?_
  refine z_iload_n dX12_bookClause_69 rfl ?_
  obtain ⟨r15, S17, hc16, h⟩ := zb_elim h
  refine z_callV (As := [.int 4, .int x2]) zcX12 zkX12_226 ziX12_fails zqX12_fails h0.1 (tX12_fails T k0 4 x2 S h0 (r15, S17) hc16) rfl rfl (Nat.le_of_ble_eq_true rfl) (by decide) ⟨Nat.le_refl _, Nat.le_refl _⟩ ⟨Nat.le_refl _, Nat.le_refl _⟩ dX12_bookClause_70 ?_
  cases h
  exact z_vret rfl dX12_bookClause_73
set_option maxHeartbeats 4000000 in
set_option maxRecDepth 100000 in
theorem tX12_bookClause_b177 (T : zT) (k0 : Nat) (x4 : Int32) (S : zS) (h0 : iX12 T k0) {g : zG} (r : (Unit × zS)) (h : fX12_bookClause_b177 T k0 x4 S = some r)  : zg g 13 mX12_bookClause T 177 [some (.ref k0), none, none, none, some (.int x4)] [] T S none T r.2 := by
  unfold fX12_bookClause_b177 at h
  refine z_aload_n dX12_bookClause_177 rfl ?_
  refine z_gA (zF.x zfX12_38) h0.1 dX12_bookClause_178 ?_
  refine z_iload dX12_bookClause_181 rfl ?_
  refine z_aload_n dX12_bookClause_183 rfl ?_
  refine z_gI (zF.x zfX12_220) h0.1 dX12_bookClause_184 ?_
  obtain ⟨q33, h⟩ := zgd_elim h
  refine z_iast h0.2.2.2.2.2.2.2.2.2.2.1 (zin_ok q33) dX12_bookClause_187 ?_
  obtain ⟨S34, eS34, h⟩ := zlet_elim h
  refine z_tS eS34 ?_
  cases h
  exact z_vret rfl dX12_bookClause_188
set_option maxHeartbeats 4000000 in
set_option maxRecDepth 100000 in
theorem tX12_bookClause_b74 (T : zT) (k0 : Nat) (x1 : Int32) (x3 : Int32) (S : zS) (h0 : iX12 T k0) {g : zG} (r : (Unit × zS)) (h : fX12_bookClause_b74 T k0 x1 x3 S = some r)  : zg g 13 mX12_bookClause T 74 [some (.ref k0), some (.int x1), none, some (.int x3), none] [] T S none T r.2 := by
  unfold fX12_bookClause_b74 at h
  refine z_aload_n dX12_bookClause_74 rfl ?_
  refine z_dup dX12_bookClause_75 rfl ?_
  refine z_gI (zF.x zfX12_190) h0.1 dX12_bookClause_76 ?_
  refine z_iload_n dX12_bookClause_79 rfl ?_
  obtain ⟨r19, hc20, h⟩ := zb1_elim h
  refine z_callS (As := [.int x3]) zkX12_318 zsX12_clauseOf (tX12_clauseOf T x3 S  r19 hc20) rfl rfl (Nat.le_of_ble_eq_true rfl) (by decide) ⟨Nat.le_refl _, Nat.le_refl _⟩ ⟨Nat.le_refl _, Nat.le_refl _⟩ dX12_bookClause_80 ?_
  refine z_callW (As := []) rfl zkX12_204 ziJ0_length_8abf5 zqJ0_length_8abf5 (uX12_clauseOf T x3 S  r19 hc20) (tJ0_length T r19 S (uX12_clauseOf T x3 S  r19 hc20)) rfl rfl (Nat.le_of_ble_eq_true rfl) (by decide) ⟨Nat.le_refl _, Nat.le_refl _⟩ dX12_bookClause_83 ?_
  refine z_iadd dX12_bookClause_86 rfl ?_
  refine z_putI zfX12_190 h0.1 dX12_bookClause_87 ?_
  obtain ⟨S21, eS21, h⟩ := zlet_elim h
  refine z_tS eS21 ?_
  refine z_bipush dX12_bookClause_90 cB_24 ?_
  refine z_aload_n dX12_bookClause_92 rfl ?_
  refine z_gI (zF.x zfX12_153) h0.1 dX12_bookClause_93 ?_
  refine z_imul dX12_bookClause_96 rfl ?_
  refine z_iload_n dX12_bookClause_97 rfl ?_
  refine z_iadd dX12_bookClause_98 rfl ?_
  obtain ⟨u22, eu22, h⟩ := zlet_elim h
  refine z_ti eu22 ?_
  refine z_istore dX12_bookClause_99 rfl (by decide) rfl ?_
  refine z_aload_n dX12_bookClause_101 rfl ?_
  refine z_gA (zF.x zfX12_23) h0.1 dX12_bookClause_102 ?_
  refine z_iload dX12_bookClause_105 rfl ?_
  refine z_iload_n dX12_bookClause_107 rfl ?_
  obtain ⟨q23, h⟩ := zgd_elim h
  refine z_iast h0.2.2.2.2.2.1 (zin_ok q23) dX12_bookClause_108 ?_
  obtain ⟨S24, eS24, h⟩ := zlet_elim h
  refine z_tS eS24 ?_
  refine z_aload_n dX12_bookClause_109 rfl ?_
  refine z_gA (zF.x zfX12_35) h0.1 dX12_bookClause_110 ?_
  refine z_iload dX12_bookClause_113 rfl ?_
  refine z_aload_n dX12_bookClause_115 rfl ?_
  refine z_gI (zF.x zfX12_220) h0.1 dX12_bookClause_116 ?_
  obtain ⟨q25, h⟩ := zgd_elim h
  refine z_iast h0.2.2.2.2.2.2.2.2.2.1 (zin_ok q25) dX12_bookClause_119 ?_
  obtain ⟨S26, eS26, h⟩ := zlet_elim h
  refine z_tS eS26 ?_
  refine z_iload_n dX12_bookClause_120 rfl ?_
  refine z_if_ne (tgt := 131) dX12_bookClause_121 (by decide) (fun q27 => ?_) (fun q27 => ?_)
  · rw [if_neg q27] at h
    refine z_iload_n dX12_bookClause_131 rfl ?_
    refine z_iconst dX12_bookClause_132 cI_1 ?_
    refine z_icmp_ne (tgt := 145) dX12_bookClause_133 (by decide) (fun q28 => ?_) (fun q28 => ?_)
    · rw [if_neg q28] at h
      refine z_iload_n dX12_bookClause_145 rfl ?_
      refine z_iconst dX12_bookClause_146 cI_2 ?_
      refine z_icmp_ne (tgt := 172) dX12_bookClause_147 (by decide) (fun q29 => ?_) (fun q29 => ?_)
      · rw [if_neg q29] at h
        refine z_aload_n dX12_bookClause_172 rfl ?_
        refine z_iload_n dX12_bookClause_173 rfl ?_
        obtain ⟨r30, S32, hc31, h⟩ := zb_elim h
        refine z_callV (As := [.int x3]) zcX12 zkX12_331 ziX12_onceClause zqX12_onceClause h0.1 (tX12_onceClause T k0 x3 S26 h0 (r30, S32) hc31) rfl rfl (Nat.le_of_ble_eq_true rfl) (by decide) ⟨Nat.le_refl _, Nat.le_refl _⟩ ⟨Nat.le_refl _, Nat.le_refl _⟩ dX12_bookClause_174 ?_
        exact z_mask [true, false, false, false, true] rfl (tX12_bookClause_b177 T k0 u22 S32 h0 r h)
      · rw [if_pos q29] at h
        refine z_aload_n dX12_bookClause_150 rfl ?_
        refine z_gA (zF.x zfX12_29) h0.1 dX12_bookClause_151 ?_
        refine z_iload dX12_bookClause_154 rfl ?_
        refine z_aload_n dX12_bookClause_156 rfl ?_
        refine z_iconst dX12_bookClause_157 cI_0 ?_
        refine z_sipush dX12_bookClause_158 cS_9999 ?_
        obtain ⟨r35, S37, hc36, h⟩ := zb_elim h
        refine z_callV (As := [.int 0, .int 9999]) zcX12 zkX12_302 ziX12_amount zqX12_amount h0.1 (tX12_amount T k0 0 9999 S26 h0 (r35, S37) hc36) rfl rfl (Nat.le_of_ble_eq_true rfl) (by decide) ⟨Nat.le_refl _, Nat.le_refl _⟩ ⟨Nat.le_refl _, Nat.le_refl _⟩ dX12_bookClause_161 ?_
        obtain ⟨q38, h⟩ := zgd_elim h
        refine z_iast h0.2.2.2.2.2.2.2.1 (zin_ok q38) dX12_bookClause_164 ?_
        obtain ⟨S39, eS39, h⟩ := zlet_elim h
        refine z_tS eS39 ?_
        refine z_aload_n dX12_bookClause_165 rfl ?_
        obtain ⟨r40, S42, hc41, h⟩ := zb_elim h
        refine z_callV (As := []) zcX12 zkX12_314 ziX12_ifTest zqX12_ifTest h0.1 (tX12_ifTest T k0 S39 h0 (r40, S42) hc41) rfl rfl (Nat.le_of_ble_eq_true rfl) (by decide) ⟨Nat.le_refl _, Nat.le_refl _⟩ ⟨Nat.le_refl _, Nat.le_refl _⟩ dX12_bookClause_166 ?_
        refine z_goto (tgt := 177) dX12_bookClause_169 (by decide) ?_
        exact z_mask [true, false, false, false, true] rfl (tX12_bookClause_b177 T k0 u22 S42 h0 r h)
    · rw [if_pos q28] at h
      refine z_aload_n dX12_bookClause_136 rfl ?_
      refine z_iload dX12_bookClause_137 rfl ?_
      obtain ⟨r43, S45, hc44, h⟩ := zb_elim h
      refine z_callV (As := [.int u22]) zcX12 zkX12_328 ziX12_setClause zqX12_setClause h0.1 (tX12_setClause T k0 u22 S26 h0 (r43, S45) hc44) rfl rfl (Nat.le_of_ble_eq_true rfl) (by decide) ⟨Nat.le_refl _, Nat.le_refl _⟩ ⟨Nat.le_refl _, Nat.le_refl _⟩ dX12_bookClause_139 ?_
      refine z_goto (tgt := 177) dX12_bookClause_142 (by decide) ?_
      exact z_mask [true, false, false, false, true] rfl (tX12_bookClause_b177 T k0 u22 S45 h0 r h)
  · rw [if_pos q27] at h
    refine z_aload_n dX12_bookClause_124 rfl ?_
    obtain ⟨r46, S48, hc47, h⟩ := zb_elim h
    refine z_callV (As := []) zcX12 zkX12_325 ziX12_thingClause zqX12_thingClause h0.1 (tX12_thingClause T k0 S26 h0 (r46, S48) hc47) rfl rfl (Nat.le_of_ble_eq_true rfl) (by decide) ⟨Nat.le_refl _, Nat.le_refl _⟩ ⟨Nat.le_refl _, Nat.le_refl _⟩ dX12_bookClause_125 ?_
    refine z_goto (tgt := 177) dX12_bookClause_128 (by decide) ?_
    exact z_mask [true, false, false, false, true] rfl (tX12_bookClause_b177 T k0 u22 S48 h0 r h)
set_option maxHeartbeats 4000000 in
set_option maxRecDepth 100000 in
theorem tX12_bookClause_b34 (T : zT) (k0 : Nat) (x1 : Int32) (x2 : Int32) (x3 : Int32) (S : zS) (h0 : iX12 T k0) {g : zG} (r : (Unit × zS)) (h : fX12_bookClause_b34 T k0 x1 x2 x3 S = some r)  : zg g 13 mX12_bookClause T 34 [some (.ref k0), some (.int x1), some (.int x2), some (.int x3), none] [] T S none T r.2 := by
  unfold fX12_bookClause_b34 at h
  refine z_iload_n dX12_bookClause_34 rfl ?_
  refine z_bipush dX12_bookClause_35 cB_7 ?_
  refine z_icmp_ne (tgt := 47) dX12_bookClause_37 (by decide) (fun q13 => ?_) (fun q13 => ?_)
  · rw [if_neg q13] at h
    refine z_iload_n dX12_bookClause_47 rfl ?_
    refine z_bipush dX12_bookClause_48 cB_24 ?_
    refine z_icmp_eq (tgt := 67) dX12_bookClause_50 (by decide) (fun q14 => ?_) (fun q14 => ?_)
    · rw [if_pos q14] at h
      exact z_mask [true, false, true, false, false] rfl (tX12_bookClause_b67 T k0 x2 S h0 r h)
    · rw [if_neg q14] at h
      refine z_iload_n dX12_bookClause_53 rfl ?_
      refine z_iconst dX12_bookClause_54 cI_2 ?_
      refine z_icmp_le (tgt := 74) dX12_bookClause_55 (by decide) (fun q18 => ?_) (fun q18 => ?_)
      · rw [if_pos q18] at h
        exact z_mask [true, true, false, true, false] rfl (tX12_bookClause_b74 T k0 x1 x3 S h0 r h)
      · rw [if_neg q18] at h
        refine z_aload_n dX12_bookClause_58 rfl ?_
        refine z_iload_n dX12_bookClause_59 rfl ?_
        refine z_iload_n dX12_bookClause_60 rfl ?_
        obtain ⟨r49, hc50, h⟩ := zb1_elim h
        refine z_callV (As := [.int x1, .int x3]) zcX12 zkX12_321 ziX12_wasTold zqX12_wasTold h0.1 (tX12_wasTold T k0 x1 x3 S h0 r49 hc50) rfl rfl (Nat.le_of_ble_eq_true rfl) (by decide) ⟨Nat.le_refl _, Nat.le_refl _⟩ ⟨Nat.le_refl _, Nat.le_refl _⟩ dX12_bookClause_61 ?_
        refine z_if_eq (tgt := 74) dX12_bookClause_64 (by decide) (fun q51 => ?_) (fun q51 => ?_)
        · rw [if_pos q51] at h
          exact z_mask [true, true, false, true, false] rfl (tX12_bookClause_b74 T k0 x1 x3 S h0 r h)
        · rw [if_neg q51] at h
          exact z_mask [true, false, true, false, false] rfl (tX12_bookClause_b67 T k0 x2 S h0 r h)
  · rw [if_pos q13] at h
    refine z_aload_n dX12_bookClause_40 rfl ?_
    refine z_iconst dX12_bookClause_41 cI_0 ?_
    refine z_iload_n dX12_bookClause_42 rfl ?_
    obtain ⟨r52, S54, hc53, h⟩ := zb_elim h
    refine z_callV (As := [.int 0, .int x2]) zcX12 zkX12_226 ziX12_fails zqX12_fails h0.1 (tX12_fails T k0 0 x2 S h0 (r52, S54) hc53) rfl rfl (Nat.le_of_ble_eq_true rfl) (by decide) ⟨Nat.le_refl _, Nat.le_refl _⟩ ⟨Nat.le_refl _, Nat.le_refl _⟩ dX12_bookClause_43 ?_
    cases h
    exact z_vret rfl dX12_bookClause_46
set_option maxHeartbeats 4000000 in
set_option maxRecDepth 100000 in
theorem tX12_bookClause (T : zT) (k0 : Nat) (x1 : Int32) (S : zS) (h0 : iX12 T k0) (r : Unit × zS) (h : fX12_bookClause T k0 x1 S = some r) : zGM 13 mX12_bookClause [.ref k0, .int x1] T S none T r.2 := by
  refine zGM_of zpnX12 rfl (Nat.le_of_ble_eq_true rfl) (fun g => ?_)
  show zg g 13 mX12_bookClause T 0 [some (.ref k0), some (.int x1), none, none, none] [] T S none T r.2
  unfold fX12_bookClause at h
  refine z_aload_n dX12_bookClause_0 rfl ?_
  obtain ⟨r1, S3, hc2, h⟩ := zb_elim h
  refine z_callV (As := []) zcX12 zkX12_213 ziX12_blanks zqX12_blanks h0.1 (tX12_blanks T k0 S h0 (r1, S3) hc2) rfl rfl (Nat.le_of_ble_eq_true rfl) (by decide) ⟨Nat.le_refl _, Nat.le_refl _⟩ ⟨Nat.le_refl _, Nat.le_refl _⟩ dX12_bookClause_1 ?_
  refine z_aload_n dX12_bookClause_4 rfl ?_
  refine z_gI (zF.x zfX12_190) h0.1 dX12_bookClause_5 ?_
  obtain ⟨u4, eu4, h⟩ := zlet_elim h
  refine z_ti eu4 ?_
  refine z_istore_n dX12_bookClause_8 rfl (by decide) rfl ?_
  refine z_iconst dX12_bookClause_9 cI_0 ?_
  refine z_istore_n dX12_bookClause_10 rfl (by decide) rfl ?_
  obtain ⟨e12, hl55, h⟩ := zb1_elim h
  obtain ⟨nf56, hl55⟩ := lp_some hl55
  refine z_mask [true, true, true, true, false] rfl (tX12_bookClause_l11 T k0 x1 u4 S3 h0 nf56 0 e12 hl55 (fun e_ q => ?_))
  · cases q
    exact z_mask [true, true, true, true, false] rfl (tX12_bookClause_b34 T k0 x1 u4 e12 S3 h0 r h)
/-! X12_reads -/
noncomputable def fX12_reads_b138 (T : zT) (k0 : Nat) (x1 : Int32) (s0 : Int32) (S : zS) : Option ((Int32 × Int32 × zS) ⊕ (Int32 × zS)) :=
  zlet (zI S k0 2 ((S.1 k0 2) + 1)) fun S19 => some (.inl (x1, s0, S19))
noncomputable def fX12_reads_b137 (T : zT) (k0 : Nat) (x1 : Int32) (S : zS) : Option ((Int32 × Int32 × zS) ⊕ (Int32 × zS)) :=
  fX12_reads_b138 T k0 x1 0 S
noncomputable def fX12_reads_b115 (T : zT) (k0 : Nat) (x1 : Int32) (S : zS) : Option ((Int32 × Int32 × zS) ⊕ (Int32 × zS)) :=
  if (S.1 k0 3) = 0 then if (S.1 k0 1) ≤ (S.1 k0 2) then fX12_reads_b137 T k0 x1 S else fX12_reads_b138 T k0 x1 1 S else fX12_reads_b137 T k0 x1 S
noncomputable def fX12_reads_b72 (T : zT) (k0 : Nat) (x1 : Int32) (S : zS) : Option ((Int32 × Int32 × zS) ⊕ (Int32 × zS)) :=
  zlet (x1 + 1) fun u13 => zb (fX12_blanks T k0 S) fun _ S16 => if (S16.1 k0 3) = 0 then if (S16.1 k0 1) ≤ (S16.1 k0 2) then fX12_reads_b115 T k0 u13 S16 else zb1 (fX12_sign T k0 S16) fun r22 => if r22 = 59 then fX12_reads_b115 T k0 u13 S16 else zb (fX12_fails T k0 0 (S16.1 k0 2) S16) fun _ S27 => fX12_reads_b115 T k0 u13 S27 else fX12_reads_b115 T k0 u13 S16
noncomputable def fX12_reads_l47 (T : zT) (k0 : Nat) (x1 : Int32) (x2 : Int32) (S : zS) : Option ((Int32 × Int32 × zS) ⊕ (Int32 × zS)) :=
  if x2 = 0 then some (.inr (x1, S)) else if (S.1 k0 4) ≤ 1 then zb (fX12_bookClause T k0 x1 S) fun _ S12 => fX12_reads_b72 T k0 x1 S12 else zb (fX12_ruleClause T k0 x1 S) fun _ S30 => fX12_reads_b72 T k0 x1 S30
noncomputable def fX12_reads_b40 (T : zT) (k0 : Nat) (s0 : Int32) (s1 : Nat) (S : zS) : Option (Int32 × zS) :=
  zlet (zI S s1 10 s0) fun S7 => zb1 (lp (fun a => fX12_reads_l47 T k0 a.1 a.2.1 a.2.2) (0, 1, S7)) fun e31 => zlet (zI e31.2 k0 1 0) fun S32 => zgd (zin (S32.1 k0 4) 8) (zlet (zI S32 (zr T k0 14) ((S32.1 k0 4) : Int32).toNatClampNeg e31.1) fun S34 => some ((S34.1 k0 3), S34))
noncomputable def fX12_reads (T : zT) (k0 : Nat) (S : zS) : Option (Int32 × zS) :=
  zlet (zI S k0 2 0) fun S1 => zlet (zI S1 k0 3 0) fun S2 => zlet (zI S2 k0 6 0) fun S3 => zlet (zI S3 k0 7 0) fun S4 => zlet (zI S4 k0 8 0) fun S5 => if (S5.1 k0 4) ≤ 1 then fX12_reads_b40 T k0 3 k0 S5 else fX12_reads_b40 T k0 9 k0 S5
set_option maxHeartbeats 4000000 in
set_option maxRecDepth 100000 in
theorem tX12_reads_b138 (T : zT) (k0 : Nat) (x1 : Int32) (s0 : Int32) (S : zS) (h0 : iX12 T k0) {g : zG} {v : Option Value} {S' : zS} (r : ((Int32 × Int32 × zS) ⊕ (Int32 × zS))) (h : fX12_reads_b138 T k0 x1 s0 S = some r) (K1 : ∀ a : (Int32 × Int32 × zS), r = .inl a → zg g 14 mX12_reads T 47 [some (.ref k0), some (.int a.1), some (.int a.2.1)] [] T a.2.2 v T S') (K2_0 : ∀ e : (Int32 × zS), r = .inr e → zg g 14 mX12_reads T 152 [some (.ref k0), some (.int e.1), none] [] T e.2 v T S') : zg g 14 mX12_reads T 138 [some (.ref k0), some (.int x1), none] [.int s0] T S v T S' := by
  unfold fX12_reads_b138 at h
  refine z_istore_n dX12_reads_138 rfl (by decide) rfl ?_
  refine z_aload_n dX12_reads_139 rfl ?_
  refine z_dup dX12_reads_140 rfl ?_
  refine z_gI (zF.x zfX12_190) h0.1 dX12_reads_141 ?_
  refine z_iconst dX12_reads_144 cI_1 ?_
  refine z_iadd dX12_reads_145 rfl ?_
  refine z_putI zfX12_190 h0.1 dX12_reads_146 ?_
  obtain ⟨S19, eS19, h⟩ := zlet_elim h
  refine z_tS eS19 ?_
  refine z_goto (tgt := 47) dX12_reads_149 (by decide) ?_
  cases h
  exact z_mask [true, true, true] rfl (K1 _ rfl)
set_option maxHeartbeats 4000000 in
set_option maxRecDepth 100000 in
theorem tX12_reads_b137 (T : zT) (k0 : Nat) (x1 : Int32) (S : zS) (h0 : iX12 T k0) {g : zG} {v : Option Value} {S' : zS} (r : ((Int32 × Int32 × zS) ⊕ (Int32 × zS))) (h : fX12_reads_b137 T k0 x1 S = some r) (K1 : ∀ a : (Int32 × Int32 × zS), r = .inl a → zg g 14 mX12_reads T 47 [some (.ref k0), some (.int a.1), some (.int a.2.1)] [] T a.2.2 v T S') (K2_0 : ∀ e : (Int32 × zS), r = .inr e → zg g 14 mX12_reads T 152 [some (.ref k0), some (.int e.1), none] [] T e.2 v T S') : zg g 14 mX12_reads T 137 [some (.ref k0), some (.int x1), none] [] T S v T S' := by
  unfold fX12_reads_b137 at h
  refine z_iconst dX12_reads_137 cI_0 ?_
  exact z_mask [true, true, false] rfl (tX12_reads_b138 T k0 x1 0 S h0 r h K1 K2_0)
set_option maxHeartbeats 4000000 in
set_option maxRecDepth 100000 in
theorem tX12_reads_b115 (T : zT) (k0 : Nat) (x1 : Int32) (S : zS) (h0 : iX12 T k0) {g : zG} {v : Option Value} {S' : zS} (r : ((Int32 × Int32 × zS) ⊕ (Int32 × zS))) (h : fX12_reads_b115 T k0 x1 S = some r) (K1 : ∀ a : (Int32 × Int32 × zS), r = .inl a → zg g 14 mX12_reads T 47 [some (.ref k0), some (.int a.1), some (.int a.2.1)] [] T a.2.2 v T S') (K2_0 : ∀ e : (Int32 × zS), r = .inr e → zg g 14 mX12_reads T 152 [some (.ref k0), some (.int e.1), none] [] T e.2 v T S') : zg g 14 mX12_reads T 115 [some (.ref k0), some (.int x1), none] [] T S v T S' := by
  unfold fX12_reads_b115 at h
  refine z_aload_n dX12_reads_115 rfl ?_
  refine z_gI (zF.x zfX12_187) h0.1 dX12_reads_116 ?_
  refine z_if_ne (tgt := 137) dX12_reads_119 (by decide) (fun q18 => ?_) (fun q18 => ?_)
  · rw [if_neg q18] at h
    exact z_mask [true, true, false] rfl (tX12_reads_b137 T k0 x1 S h0 r h K1 K2_0)
  · rw [if_pos q18] at h
    refine z_aload_n dX12_reads_122 rfl ?_
    refine z_gI (zF.x zfX12_190) h0.1 dX12_reads_123 ?_
    refine z_aload_n dX12_reads_126 rfl ?_
    refine z_gI (zF.x zfX12_147) h0.1 dX12_reads_127 ?_
    refine z_icmp_ge (tgt := 137) dX12_reads_130 (by decide) (fun q20 => ?_) (fun q20 => ?_)
    · rw [if_pos q20] at h
      exact z_mask [true, true, false] rfl (tX12_reads_b137 T k0 x1 S h0 r h K1 K2_0)
    · rw [if_neg q20] at h
      refine z_iconst dX12_reads_133 cI_1 ?_
      refine z_goto (tgt := 138) dX12_reads_134 (by decide) ?_
      exact z_mask [true, true, false] rfl (tX12_reads_b138 T k0 x1 1 S h0 r h K1 K2_0)
set_option maxHeartbeats 4000000 in
set_option maxRecDepth 100000 in
theorem tX12_reads_b72 (T : zT) (k0 : Nat) (x1 : Int32) (S : zS) (h0 : iX12 T k0) {g : zG} {v : Option Value} {S' : zS} (r : ((Int32 × Int32 × zS) ⊕ (Int32 × zS))) (h : fX12_reads_b72 T k0 x1 S = some r) (K1 : ∀ a : (Int32 × Int32 × zS), r = .inl a → zg g 14 mX12_reads T 47 [some (.ref k0), some (.int a.1), some (.int a.2.1)] [] T a.2.2 v T S') (K2_0 : ∀ e : (Int32 × zS), r = .inr e → zg g 14 mX12_reads T 152 [some (.ref k0), some (.int e.1), none] [] T e.2 v T S') : zg g 14 mX12_reads T 72 [some (.ref k0), some (.int x1), none] [] T S v T S' := by
  unfold fX12_reads_b72 at h
  obtain ⟨u13, eu13, h⟩ := zlet_elim h
  refine z_iinc (r := u13) dX12_reads_72 rfl (by rw [eu13, cI_1]) rfl (by decide) rfl ?_
  refine z_aload_n dX12_reads_75 rfl ?_
  obtain ⟨r14, S16, hc15, h⟩ := zb_elim h
  refine z_callV (As := []) zcX12 zkX12_213 ziX12_blanks zqX12_blanks h0.1 (tX12_blanks T k0 S h0 (r14, S16) hc15) rfl rfl (Nat.le_of_ble_eq_true rfl) (by decide) ⟨Nat.le_refl _, Nat.le_refl _⟩ ⟨Nat.le_refl _, Nat.le_refl _⟩ dX12_reads_76 ?_
  refine z_aload_n dX12_reads_79 rfl ?_
  refine z_gI (zF.x zfX12_187) h0.1 dX12_reads_80 ?_
  refine z_if_ne (tgt := 115) dX12_reads_83 (by decide) (fun q17 => ?_) (fun q17 => ?_)
  · rw [if_neg q17] at h
    exact z_mask [true, true, false] rfl (tX12_reads_b115 T k0 u13 S16 h0 r h K1 K2_0)
  · rw [if_pos q17] at h
    refine z_aload_n dX12_reads_86 rfl ?_
    refine z_gI (zF.x zfX12_190) h0.1 dX12_reads_87 ?_
    refine z_aload_n dX12_reads_90 rfl ?_
    refine z_gI (zF.x zfX12_147) h0.1 dX12_reads_91 ?_
    refine z_icmp_ge (tgt := 115) dX12_reads_94 (by decide) (fun q21 => ?_) (fun q21 => ?_)
    · rw [if_pos q21] at h
      exact z_mask [true, true, false] rfl (tX12_reads_b115 T k0 u13 S16 h0 r h K1 K2_0)
    · rw [if_neg q21] at h
      refine z_aload_n dX12_reads_97 rfl ?_
      obtain ⟨r22, hc23, h⟩ := zb1_elim h
      refine z_callV (As := []) zcX12 zkX12_193 ziX12_sign zqX12_sign h0.1 (tX12_sign T k0 S16 h0 r22 hc23) rfl rfl (Nat.le_of_ble_eq_true rfl) (by decide) ⟨Nat.le_refl _, Nat.le_refl _⟩ ⟨Nat.le_refl _, Nat.le_refl _⟩ dX12_reads_98 ?_
      refine z_bipush dX12_reads_101 cB_59 ?_
      refine z_icmp_eq (tgt := 115) dX12_reads_103 (by decide) (fun q24 => ?_) (fun q24 => ?_)
      · rw [if_pos q24] at h
        exact z_mask [true, true, false] rfl (tX12_reads_b115 T k0 u13 S16 h0 r h K1 K2_0)
      · rw [if_neg q24] at h
        refine z_aload_n dX12_reads_106 rfl ?_
        refine z_iconst dX12_reads_107 cI_0 ?_
        refine z_aload_n dX12_reads_108 rfl ?_
        refine z_gI (zF.x zfX12_190) h0.1 dX12_reads_109 ?_
        obtain ⟨r25, S27, hc26, h⟩ := zb_elim h
        refine z_callV (As := [.int 0, .int (S16.1 k0 2)]) zcX12 zkX12_226 ziX12_fails zqX12_fails h0.1 (tX12_fails T k0 0 (S16.1 k0 2) S16 h0 (r25, S27) hc26) rfl rfl (Nat.le_of_ble_eq_true rfl) (by decide) ⟨Nat.le_refl _, Nat.le_refl _⟩ ⟨Nat.le_refl _, Nat.le_refl _⟩ dX12_reads_112 ?_
        exact z_mask [true, true, false] rfl (tX12_reads_b115 T k0 u13 S27 h0 r h K1 K2_0)
set_option maxHeartbeats 4000000 in
set_option maxRecDepth 100000 in
theorem tX12_reads_l47b (T : zT) (k0 : Nat) (x1 : Int32) (x2 : Int32) (S : zS) (h0 : iX12 T k0) {g : zG} {v : Option Value} {S' : zS} (r : (Int32 × Int32 × zS) ⊕ (Int32 × zS)) (h : fX12_reads_l47 T k0 x1 x2 S = some r) (K1 : ∀ a : (Int32 × Int32 × zS), r = .inl a → zg g 14 mX12_reads T 47 [some (.ref k0), some (.int a.1), some (.int a.2.1)] [] T a.2.2 v T S') (K2_0 : ∀ e : (Int32 × zS), r = .inr e → zg g 14 mX12_reads T 152 [some (.ref k0), some (.int e.1), none] [] T e.2 v T S') : zg g 14 mX12_reads T 47 [some (.ref k0), some (.int x1), some (.int x2)] [] T S v T S' := by
  unfold fX12_reads_l47 at h
  refine z_iload_n dX12_reads_47 rfl ?_
  refine z_if_eq (tgt := 152) dX12_reads_48 (by decide) (fun q8 => ?_) (fun q8 => ?_)
  · rw [if_pos q8] at h
    cases h
    exact z_mask [true, true, false] rfl (K2_0 _ rfl)
  · rw [if_neg q8] at h
    refine z_aload_n dX12_reads_51 rfl ?_
    refine z_gI (zF.x zfX12_153) h0.1 dX12_reads_52 ?_
    refine z_iconst dX12_reads_55 cI_1 ?_
    refine z_icmp_le (tgt := 67) dX12_reads_56 (by decide) (fun q9 => ?_) (fun q9 => ?_)
    · rw [if_pos q9] at h
      refine z_aload_n dX12_reads_67 rfl ?_
      refine z_iload_n dX12_reads_68 rfl ?_
      obtain ⟨r10, S12, hc11, h⟩ := zb_elim h
      refine z_callV (As := [.int x1]) zcX12 zkX12_341 ziX12_bookClause zqX12_bookClause h0.1 (tX12_bookClause T k0 x1 S h0 (r10, S12) hc11) rfl rfl (Nat.le_of_ble_eq_true rfl) (by decide) ⟨Nat.le_refl _, Nat.le_refl _⟩ ⟨Nat.le_refl _, Nat.le_refl _⟩ dX12_reads_69 ?_
      exact z_mask [true, true, false] rfl (tX12_reads_b72 T k0 x1 S12 h0 r h K1 K2_0)
    · rw [if_neg q9] at h
      refine z_aload_n dX12_reads_59 rfl ?_
      refine z_iload_n dX12_reads_60 rfl ?_
      obtain ⟨r28, S30, hc29, h⟩ := zb_elim h
      refine z_callV (As := [.int x1]) zcX12 zkX12_338 ziX12_ruleClause zqX12_ruleClause h0.1 (tX12_ruleClause T k0 x1 S h0 (r28, S30) hc29) rfl rfl (Nat.le_of_ble_eq_true rfl) (by decide) ⟨Nat.le_refl _, Nat.le_refl _⟩ ⟨Nat.le_refl _, Nat.le_refl _⟩ dX12_reads_61 ?_
      refine z_goto (tgt := 72) dX12_reads_64 (by decide) ?_
      exact z_mask [true, true, false] rfl (tX12_reads_b72 T k0 x1 S30 h0 r h K1 K2_0)
set_option maxHeartbeats 4000000 in
set_option maxRecDepth 100000 in
theorem tX12_reads_l47 (T : zT) (k0 : Nat) (h0 : iX12 T k0) {g : zG} {v : Option Value} {S' : zS} : ∀ (n : Nat) (a : (Int32 × Int32 × zS)) (e : (Int32 × zS)), lpn (fun a => fX12_reads_l47 T k0 a.1 a.2.1 a.2.2) n a = some e → (∀ e1 : (Int32 × zS), e = e1 → zg g 14 mX12_reads T 152 [some (.ref k0), some (.int e1.1), none] [] T e1.2 v T S') → zg g 14 mX12_reads T 47 [some (.ref k0), some (.int a.1), some (.int a.2.1)] [] T a.2.2 v T S' := by
  intro n
  induction n with
  | zero =>
    intro a e h
    cases h
  | succ n ih =>
    intro a e h k0_
    rcases lpn_succ h with ⟨a1, ha_, hb_⟩ | ha_
    · exact tX12_reads_l47b T k0 a.1 a.2.1 a.2.2 h0 _ ha_ (fun a2 q => by cases q; exact ih a1 e hb_ k0_) (fun e1 q => by cases q)
    · exact tX12_reads_l47b T k0 a.1 a.2.1 a.2.2 h0 _ ha_ (fun a2 q => by cases q) (fun e1 q => by cases q; exact k0_ _ rfl)
set_option maxHeartbeats 4000000 in
set_option maxRecDepth 100000 in
theorem tX12_reads_b40 (T : zT) (k0 : Nat) (s0 : Int32) (s1 : Nat) (S : zS) (h0 : iX12 T k0) (g1 : iX12 T s1) {g : zG} (r : (Int32 × zS)) (h : fX12_reads_b40 T k0 s0 s1 S = some r)  : zg g 14 mX12_reads T 40 [some (.ref k0), none, none] [.int s0, .ref s1] T S (some (.int r.1)) T r.2 := by
  unfold fX12_reads_b40 at h
  refine z_putI zfX12_245 g1.1 dX12_reads_40 ?_
  obtain ⟨S7, eS7, h⟩ := zlet_elim h
  refine z_tS eS7 ?_
  refine z_iconst dX12_reads_43 cI_0 ?_
  refine z_istore_n dX12_reads_44 rfl (by decide) rfl ?_
  refine z_iconst dX12_reads_45 cI_1 ?_
  refine z_istore_n dX12_reads_46 rfl (by decide) rfl ?_
  obtain ⟨e31, hl35, h⟩ := zb1_elim h
  obtain ⟨nf36, hl35⟩ := lp_some hl35
  refine z_mask [true, true, true] rfl (tX12_reads_l47 T k0 h0 nf36 (0, 1, S7) e31 hl35 (fun e_ q => ?_))
  · cases q
    refine z_aload_n dX12_reads_152 rfl ?_
    refine z_iconst dX12_reads_153 cI_0 ?_
    refine z_putI zfX12_147 h0.1 dX12_reads_154 ?_
    obtain ⟨S32, eS32, h⟩ := zlet_elim h
    refine z_tS eS32 ?_
    refine z_aload_n dX12_reads_157 rfl ?_
    refine z_gA (zF.x zfX12_20) h0.1 dX12_reads_158 ?_
    refine z_aload_n dX12_reads_161 rfl ?_
    refine z_gI (zF.x zfX12_153) h0.1 dX12_reads_162 ?_
    refine z_iload_n dX12_reads_165 rfl ?_
    obtain ⟨q33, h⟩ := zgd_elim h
    refine z_iast h0.2.2.2.2.1 (zin_ok q33) dX12_reads_166 ?_
    obtain ⟨S34, eS34, h⟩ := zlet_elim h
    refine z_tS eS34 ?_
    refine z_aload_n dX12_reads_167 rfl ?_
    refine z_gI (zF.x zfX12_187) h0.1 dX12_reads_168 ?_
    cases h
    exact z_iret rfl dX12_reads_171
set_option maxHeartbeats 4000000 in
set_option maxRecDepth 100000 in
theorem tX12_reads (T : zT) (k0 : Nat) (S : zS) (h0 : iX12 T k0) (r : Int32 × zS) (h : fX12_reads T k0 S = some r) : zGM 14 mX12_reads [.ref k0] T S (some (.int r.1)) T r.2 := by
  refine zGM_of zpnX12 rfl (Nat.le_of_ble_eq_true rfl) (fun g => ?_)
  show zg g 14 mX12_reads T 0 [some (.ref k0), none, none] [] T S (some (.int r.1)) T r.2
  unfold fX12_reads at h
  refine z_aload_n dX12_reads_0 rfl ?_
  refine z_iconst dX12_reads_1 cI_0 ?_
  refine z_putI zfX12_190 h0.1 dX12_reads_2 ?_
  obtain ⟨S1, eS1, h⟩ := zlet_elim h
  refine z_tS eS1 ?_
  refine z_aload_n dX12_reads_5 rfl ?_
  refine z_iconst dX12_reads_6 cI_0 ?_
  refine z_putI zfX12_187 h0.1 dX12_reads_7 ?_
  obtain ⟨S2, eS2, h⟩ := zlet_elim h
  refine z_tS eS2 ?_
  refine z_aload_n dX12_reads_10 rfl ?_
  refine z_iconst dX12_reads_11 cI_0 ?_
  refine z_putI zfX12_220 h0.1 dX12_reads_12 ?_
  obtain ⟨S3, eS3, h⟩ := zlet_elim h
  refine z_tS eS3 ?_
  refine z_aload_n dX12_reads_15 rfl ?_
  refine z_iconst dX12_reads_16 cI_0 ?_
  refine z_putI zfX12_263 h0.1 dX12_reads_17 ?_
  obtain ⟨S4, eS4, h⟩ := zlet_elim h
  refine z_tS eS4 ?_
  refine z_aload_n dX12_reads_20 rfl ?_
  refine z_iconst dX12_reads_21 cI_0 ?_
  refine z_putI zfX12_223 h0.1 dX12_reads_22 ?_
  obtain ⟨S5, eS5, h⟩ := zlet_elim h
  refine z_tS eS5 ?_
  refine z_aload_n dX12_reads_25 rfl ?_
  refine z_aload_n dX12_reads_26 rfl ?_
  refine z_gI (zF.x zfX12_153) h0.1 dX12_reads_27 ?_
  refine z_iconst dX12_reads_30 cI_1 ?_
  refine z_icmp_le (tgt := 39) dX12_reads_31 (by decide) (fun q6 => ?_) (fun q6 => ?_)
  · rw [if_pos q6] at h
    refine z_iconst dX12_reads_39 cI_3 ?_
    exact z_mask [true, false, false] rfl (tX12_reads_b40 T k0 3 k0 S5 h0 h0 r h)
  · rw [if_neg q6] at h
    refine z_bipush dX12_reads_34 cB_9 ?_
    refine z_goto (tgt := 40) dX12_reads_36 (by decide) ?_
    exact z_mask [true, false, false] rfl (tX12_reads_b40 T k0 9 k0 S5 h0 h0 r h)
/-! X12_book -/
noncomputable def fX12_book (T : zT) (k0 : Nat) (S : zS) : Option (Int32 × zS) :=
  zlet (zI S k0 4 1) fun S1 => zb (fX12_clears T k0 1 S1) fun _ S4 => zb (fX12_reads T k0 S4) fun r5 S7 => if r5 ≤ 0 then zb (fX12_over T (zr T k0 12) 2400 300 S7) fun _ S11 => zb (fX12_over T (zr T k0 13) 2400 300 S11) fun _ S14 => zb (fX12_over T (zr T k0 14) 8 1 S14) fun _ S17 => zb (fX12_over T (zr T k0 15) 192 24 S17) fun _ S20 => zb (fX12_over T (zr T k0 16) 192 24 S20) fun _ S23 => zb (fX12_over T (zr T k0 17) 192 24 S23) fun _ S26 => zb (fX12_over T (zr T k0 19) 192 24 S26) fun _ S29 => zb (fX12_over T (zr T k0 20) 192 24 S29) fun _ S32 => zb (fX12_over T (zr T k0 22) 16 8 S32) fun _ S35 => zb (fX12_over T (zr T k0 23) 16 8 S35) fun _ S38 => zb (fX12_over T (zr T k0 24) 16 8 S38) fun _ S41 => zb (fX12_over T (zr T k0 25) 16 8 S41) fun _ S44 => zb (fX12_over T (zr T k0 26) 16 8 S44) fun _ S47 => zb (fX12_over T (zr T k0 27) 16 8 S47) fun _ S50 => zb (fX12_over T (zr T k0 28) 16 8 S50) fun _ S53 => zb (fX12_over T (zr T k0 29) 2 1 S53) fun _ S56 => zb (fX12_over T (zr T k0 30) 2 1 S56) fun _ S59 => zb (fX12_over T (zr T k0 31) 2 1 S59) fun _ S62 => zb (fX12_over T (zr T k0 32) 2 1 S62) fun _ S65 => zb (fX12_over T (zr T k0 33) 2 1 S65) fun _ S68 => zlet (zI S68 k0 36 0) fun S69 => zb1 (fX12_all T k0 S69) fun r70 => zb1 (fX12_bits T r70 S69) fun r72 => some (r72, S69) else some (((-2) - r5), S7)
set_option maxHeartbeats 4000000 in
set_option maxRecDepth 100000 in
theorem tX12_book (T : zT) (k0 : Nat) (S : zS) (h0 : iX12 T k0) (r : Int32 × zS) (h : fX12_book T k0 S = some r) : zGM 15 mX12_book [.ref k0] T S (some (.int r.1)) T r.2 := by
  refine zGM_of zpnX12 rfl (Nat.le_of_ble_eq_true rfl) (fun g => ?_)
  show zg g 15 mX12_book T 0 [some (.ref k0), none] [] T S (some (.int r.1)) T r.2
  unfold fX12_book at h
  refine z_aload_n dX12_book_0 rfl ?_
  refine z_iconst dX12_book_1 cI_1 ?_
  refine z_putI zfX12_153 h0.1 dX12_book_2 ?_
  obtain ⟨S1, eS1, h⟩ := zlet_elim h
  refine z_tS eS1 ?_
  refine z_aload_n dX12_book_5 rfl ?_
  refine z_iconst dX12_book_6 cI_1 ?_
  obtain ⟨r2, S4, hc3, h⟩ := zb_elim h
  refine z_callV (As := [.int 1]) zcX12 zkX12_139 ziX12_clears zqX12_clears h0.1 (tX12_clears T k0 1 S1 h0 (r2, S4) hc3) rfl rfl (Nat.le_of_ble_eq_true rfl) (by decide) ⟨Nat.le_refl _, Nat.le_refl _⟩ ⟨Nat.le_refl _, Nat.le_refl _⟩ dX12_book_7 ?_
  refine z_aload_n dX12_book_10 rfl ?_
  obtain ⟨r5, S7, hc6, h⟩ := zb_elim h
  refine z_callV (As := []) zcX12 zkX12_344 ziX12_reads zqX12_reads h0.1 (tX12_reads T k0 S4 h0 (r5, S7) hc6) rfl rfl (Nat.le_of_ble_eq_true rfl) (by decide) ⟨Nat.le_refl _, Nat.le_refl _⟩ ⟨Nat.le_refl _, Nat.le_refl _⟩ dX12_book_11 ?_
  refine z_istore_n dX12_book_14 rfl (by decide) rfl ?_
  refine z_iload_n dX12_book_15 rfl ?_
  refine z_if_le (tgt := 24) dX12_book_16 (by decide) (fun q8 => ?_) (fun q8 => ?_)
  · rw [if_pos q8] at h
    refine z_aload_n dX12_book_24 rfl ?_
    refine z_gA (zF.x zfX12_13) h0.1 dX12_book_25 ?_
    refine z_sipush dX12_book_28 cS_300 ?_
    obtain ⟨r9, S11, hc10, h⟩ := zb_elim h
    refine z_callS (As := [.ref (zr T k0 12), .int 300]) zkX12_347 zsX12_over (tX12_over T (zr T k0 12) 2400 300 S7 h0.2.2.1 (r9, S11) hc10) rfl rfl (Nat.le_of_ble_eq_true rfl) (by decide) ⟨Nat.le_refl _, Nat.le_refl _⟩ ⟨Nat.le_refl _, Nat.le_refl _⟩ dX12_book_31 ?_
    refine z_aload_n dX12_book_34 rfl ?_
    refine z_gA (zF.x zfX12_17) h0.1 dX12_book_35 ?_
    refine z_sipush dX12_book_38 cS_300 ?_
    obtain ⟨r12, S14, hc13, h⟩ := zb_elim h
    refine z_callS (As := [.ref (zr T k0 13), .int 300]) zkX12_347 zsX12_over (tX12_over T (zr T k0 13) 2400 300 S11 h0.2.2.2.1 (r12, S14) hc13) rfl rfl (Nat.le_of_ble_eq_true rfl) (by decide) ⟨Nat.le_refl _, Nat.le_refl _⟩ ⟨Nat.le_refl _, Nat.le_refl _⟩ dX12_book_41 ?_
    refine z_aload_n dX12_book_44 rfl ?_
    refine z_gA (zF.x zfX12_20) h0.1 dX12_book_45 ?_
    refine z_iconst dX12_book_48 cI_1 ?_
    obtain ⟨r15, S17, hc16, h⟩ := zb_elim h
    refine z_callS (As := [.ref (zr T k0 14), .int 1]) zkX12_347 zsX12_over (tX12_over T (zr T k0 14) 8 1 S14 h0.2.2.2.2.1 (r15, S17) hc16) rfl rfl (Nat.le_of_ble_eq_true rfl) (by decide) ⟨Nat.le_refl _, Nat.le_refl _⟩ ⟨Nat.le_refl _, Nat.le_refl _⟩ dX12_book_49 ?_
    refine z_aload_n dX12_book_52 rfl ?_
    refine z_gA (zF.x zfX12_23) h0.1 dX12_book_53 ?_
    refine z_bipush dX12_book_56 cB_24 ?_
    obtain ⟨r18, S20, hc19, h⟩ := zb_elim h
    refine z_callS (As := [.ref (zr T k0 15), .int 24]) zkX12_347 zsX12_over (tX12_over T (zr T k0 15) 192 24 S17 h0.2.2.2.2.2.1 (r18, S20) hc19) rfl rfl (Nat.le_of_ble_eq_true rfl) (by decide) ⟨Nat.le_refl _, Nat.le_refl _⟩ ⟨Nat.le_refl _, Nat.le_refl _⟩ dX12_book_58 ?_
    refine z_aload_n dX12_book_61 rfl ?_
    refine z_gA (zF.x zfX12_26) h0.1 dX12_book_62 ?_
    refine z_bipush dX12_book_65 cB_24 ?_
    obtain ⟨r21, S23, hc22, h⟩ := zb_elim h
    refine z_callS (As := [.ref (zr T k0 16), .int 24]) zkX12_347 zsX12_over (tX12_over T (zr T k0 16) 192 24 S20 h0.2.2.2.2.2.2.1 (r21, S23) hc22) rfl rfl (Nat.le_of_ble_eq_true rfl) (by decide) ⟨Nat.le_refl _, Nat.le_refl _⟩ ⟨Nat.le_refl _, Nat.le_refl _⟩ dX12_book_67 ?_
    refine z_aload_n dX12_book_70 rfl ?_
    refine z_gA (zF.x zfX12_29) h0.1 dX12_book_71 ?_
    refine z_bipush dX12_book_74 cB_24 ?_
    obtain ⟨r24, S26, hc25, h⟩ := zb_elim h
    refine z_callS (As := [.ref (zr T k0 17), .int 24]) zkX12_347 zsX12_over (tX12_over T (zr T k0 17) 192 24 S23 h0.2.2.2.2.2.2.2.1 (r24, S26) hc25) rfl rfl (Nat.le_of_ble_eq_true rfl) (by decide) ⟨Nat.le_refl _, Nat.le_refl _⟩ ⟨Nat.le_refl _, Nat.le_refl _⟩ dX12_book_76 ?_
    refine z_aload_n dX12_book_79 rfl ?_
    refine z_gA (zF.x zfX12_35) h0.1 dX12_book_80 ?_
    refine z_bipush dX12_book_83 cB_24 ?_
    obtain ⟨r27, S29, hc28, h⟩ := zb_elim h
    refine z_callS (As := [.ref (zr T k0 19), .int 24]) zkX12_347 zsX12_over (tX12_over T (zr T k0 19) 192 24 S26 h0.2.2.2.2.2.2.2.2.2.1 (r27, S29) hc28) rfl rfl (Nat.le_of_ble_eq_true rfl) (by decide) ⟨Nat.le_refl _, Nat.le_refl _⟩ ⟨Nat.le_refl _, Nat.le_refl _⟩ dX12_book_85 ?_
    refine z_aload_n dX12_book_88 rfl ?_
    refine z_gA (zF.x zfX12_38) h0.1 dX12_book_89 ?_
    refine z_bipush dX12_book_92 cB_24 ?_
    obtain ⟨r30, S32, hc31, h⟩ := zb_elim h
    refine z_callS (As := [.ref (zr T k0 20), .int 24]) zkX12_347 zsX12_over (tX12_over T (zr T k0 20) 192 24 S29 h0.2.2.2.2.2.2.2.2.2.2.1 (r30, S32) hc31) rfl rfl (Nat.le_of_ble_eq_true rfl) (by decide) ⟨Nat.le_refl _, Nat.le_refl _⟩ ⟨Nat.le_refl _, Nat.le_refl _⟩ dX12_book_94 ?_
    refine z_aload_n dX12_book_97 rfl ?_
    refine z_gA (zF.x zfX12_44) h0.1 dX12_book_98 ?_
    refine z_bipush dX12_book_101 cB_8 ?_
    obtain ⟨r33, S35, hc34, h⟩ := zb_elim h
    refine z_callS (As := [.ref (zr T k0 22), .int 8]) zkX12_347 zsX12_over (tX12_over T (zr T k0 22) 16 8 S32 h0.2.2.2.2.2.2.2.2.2.2.2.2.1 (r33, S35) hc34) rfl rfl (Nat.le_of_ble_eq_true rfl) (by decide) ⟨Nat.le_refl _, Nat.le_refl _⟩ ⟨Nat.le_refl _, Nat.le_refl _⟩ dX12_book_103 ?_
    refine z_aload_n dX12_book_106 rfl ?_
    refine z_gA (zF.x zfX12_47) h0.1 dX12_book_107 ?_
    refine z_bipush dX12_book_110 cB_8 ?_
    obtain ⟨r36, S38, hc37, h⟩ := zb_elim h
    refine z_callS (As := [.ref (zr T k0 23), .int 8]) zkX12_347 zsX12_over (tX12_over T (zr T k0 23) 16 8 S35 h0.2.2.2.2.2.2.2.2.2.2.2.2.2.1 (r36, S38) hc37) rfl rfl (Nat.le_of_ble_eq_true rfl) (by decide) ⟨Nat.le_refl _, Nat.le_refl _⟩ ⟨Nat.le_refl _, Nat.le_refl _⟩ dX12_book_112 ?_
    refine z_aload_n dX12_book_115 rfl ?_
    refine z_gA (zF.x zfX12_50) h0.1 dX12_book_116 ?_
    refine z_bipush dX12_book_119 cB_8 ?_
    obtain ⟨r39, S41, hc40, h⟩ := zb_elim h
    refine z_callS (As := [.ref (zr T k0 24), .int 8]) zkX12_347 zsX12_over (tX12_over T (zr T k0 24) 16 8 S38 h0.2.2.2.2.2.2.2.2.2.2.2.2.2.2.1 (r39, S41) hc40) rfl rfl (Nat.le_of_ble_eq_true rfl) (by decide) ⟨Nat.le_refl _, Nat.le_refl _⟩ ⟨Nat.le_refl _, Nat.le_refl _⟩ dX12_book_121 ?_
    refine z_aload_n dX12_book_124 rfl ?_
    refine z_gA (zF.x zfX12_53) h0.1 dX12_book_125 ?_
    refine z_bipush dX12_book_128 cB_8 ?_
    obtain ⟨r42, S44, hc43, h⟩ := zb_elim h
    refine z_callS (As := [.ref (zr T k0 25), .int 8]) zkX12_347 zsX12_over (tX12_over T (zr T k0 25) 16 8 S41 h0.2.2.2.2.2.2.2.2.2.2.2.2.2.2.2.1 (r42, S44) hc43) rfl rfl (Nat.le_of_ble_eq_true rfl) (by decide) ⟨Nat.le_refl _, Nat.le_refl _⟩ ⟨Nat.le_refl _, Nat.le_refl _⟩ dX12_book_130 ?_
    refine z_aload_n dX12_book_133 rfl ?_
    refine z_gA (zF.x zfX12_56) h0.1 dX12_book_134 ?_
    refine z_bipush dX12_book_137 cB_8 ?_
    obtain ⟨r45, S47, hc46, h⟩ := zb_elim h
    refine z_callS (As := [.ref (zr T k0 26), .int 8]) zkX12_347 zsX12_over (tX12_over T (zr T k0 26) 16 8 S44 h0.2.2.2.2.2.2.2.2.2.2.2.2.2.2.2.2.1 (r45, S47) hc46) rfl rfl (Nat.le_of_ble_eq_true rfl) (by decide) ⟨Nat.le_refl _, Nat.le_refl _⟩ ⟨Nat.le_refl _, Nat.le_refl _⟩ dX12_book_139 ?_
    refine z_aload_n dX12_book_142 rfl ?_
    refine z_gA (zF.x zfX12_59) h0.1 dX12_book_143 ?_
    refine z_bipush dX12_book_146 cB_8 ?_
    obtain ⟨r48, S50, hc49, h⟩ := zb_elim h
    refine z_callS (As := [.ref (zr T k0 27), .int 8]) zkX12_347 zsX12_over (tX12_over T (zr T k0 27) 16 8 S47 h0.2.2.2.2.2.2.2.2.2.2.2.2.2.2.2.2.2.1 (r48, S50) hc49) rfl rfl (Nat.le_of_ble_eq_true rfl) (by decide) ⟨Nat.le_refl _, Nat.le_refl _⟩ ⟨Nat.le_refl _, Nat.le_refl _⟩ dX12_book_148 ?_
    refine z_aload_n dX12_book_151 rfl ?_
    refine z_gA (zF.x zfX12_62) h0.1 dX12_book_152 ?_
    refine z_bipush dX12_book_155 cB_8 ?_
    obtain ⟨r51, S53, hc52, h⟩ := zb_elim h
    refine z_callS (As := [.ref (zr T k0 28), .int 8]) zkX12_347 zsX12_over (tX12_over T (zr T k0 28) 16 8 S50 h0.2.2.2.2.2.2.2.2.2.2.2.2.2.2.2.2.2.2.1 (r51, S53) hc52) rfl rfl (Nat.le_of_ble_eq_true rfl) (by decide) ⟨Nat.le_refl _, Nat.le_refl _⟩ ⟨Nat.le_refl _, Nat.le_refl _⟩ dX12_book_157 ?_
    refine z_aload_n dX12_book_160 rfl ?_
    refine z_gA (zF.x zfX12_65) h0.1 dX12_book_161 ?_
    refine z_iconst dX12_book_164 cI_1 ?_
    obtain ⟨r54, S56, hc55, h⟩ := zb_elim h
    refine z_callS (As := [.ref (zr T k0 29), .int 1]) zkX12_347 zsX12_over (tX12_over T (zr T k0 29) 2 1 S53 h0.2.2.2.2.2.2.2.2.2.2.2.2.2.2.2.2.2.2.2.1 (r54, S56) hc55) rfl rfl (Nat.le_of_ble_eq_true rfl) (by decide) ⟨Nat.le_refl _, Nat.le_refl _⟩ ⟨Nat.le_refl _, Nat.le_refl _⟩ dX12_book_165 ?_
    refine z_aload_n dX12_book_168 rfl ?_
    refine z_gA (zF.x zfX12_68) h0.1 dX12_book_169 ?_
    refine z_iconst dX12_book_172 cI_1 ?_
    obtain ⟨r57, S59, hc58, h⟩ := zb_elim h
    refine z_callS (As := [.ref (zr T k0 30), .int 1]) zkX12_347 zsX12_over (tX12_over T (zr T k0 30) 2 1 S56 h0.2.2.2.2.2.2.2.2.2.2.2.2.2.2.2.2.2.2.2.2.1 (r57, S59) hc58) rfl rfl (Nat.le_of_ble_eq_true rfl) (by decide) ⟨Nat.le_refl _, Nat.le_refl _⟩ ⟨Nat.le_refl _, Nat.le_refl _⟩ dX12_book_173 ?_
    refine z_aload_n dX12_book_176 rfl ?_
    refine z_gA (zF.x zfX12_71) h0.1 dX12_book_177 ?_
    refine z_iconst dX12_book_180 cI_1 ?_
    obtain ⟨r60, S62, hc61, h⟩ := zb_elim h
    refine z_callS (As := [.ref (zr T k0 31), .int 1]) zkX12_347 zsX12_over (tX12_over T (zr T k0 31) 2 1 S59 h0.2.2.2.2.2.2.2.2.2.2.2.2.2.2.2.2.2.2.2.2.2.1 (r60, S62) hc61) rfl rfl (Nat.le_of_ble_eq_true rfl) (by decide) ⟨Nat.le_refl _, Nat.le_refl _⟩ ⟨Nat.le_refl _, Nat.le_refl _⟩ dX12_book_181 ?_
    refine z_aload_n dX12_book_184 rfl ?_
    refine z_gA (zF.x zfX12_74) h0.1 dX12_book_185 ?_
    refine z_iconst dX12_book_188 cI_1 ?_
    obtain ⟨r63, S65, hc64, h⟩ := zb_elim h
    refine z_callS (As := [.ref (zr T k0 32), .int 1]) zkX12_347 zsX12_over (tX12_over T (zr T k0 32) 2 1 S62 h0.2.2.2.2.2.2.2.2.2.2.2.2.2.2.2.2.2.2.2.2.2.2.1 (r63, S65) hc64) rfl rfl (Nat.le_of_ble_eq_true rfl) (by decide) ⟨Nat.le_refl _, Nat.le_refl _⟩ ⟨Nat.le_refl _, Nat.le_refl _⟩ dX12_book_189 ?_
    refine z_aload_n dX12_book_192 rfl ?_
    refine z_gA (zF.x zfX12_77) h0.1 dX12_book_193 ?_
    refine z_iconst dX12_book_196 cI_1 ?_
    obtain ⟨r66, S68, hc67, h⟩ := zb_elim h
    refine z_callS (As := [.ref (zr T k0 33), .int 1]) zkX12_347 zsX12_over (tX12_over T (zr T k0 33) 2 1 S65 h0.2.2.2.2.2.2.2.2.2.2.2.2.2.2.2.2.2.2.2.2.2.2.2.1 (r66, S68) hc67) rfl rfl (Nat.le_of_ble_eq_true rfl) (by decide) ⟨Nat.le_refl _, Nat.le_refl _⟩ ⟨Nat.le_refl _, Nat.le_refl _⟩ dX12_book_197 ?_
    refine z_aload_n dX12_book_200 rfl ?_
    refine z_iconst dX12_book_201 cI_0 ?_
    refine z_putI zfX12_351 h0.1 dX12_book_202 ?_
    obtain ⟨S69, eS69, h⟩ := zlet_elim h
    refine z_tS eS69 ?_
    refine z_aload_n dX12_book_205 rfl ?_
    obtain ⟨r70, hc71, h⟩ := zb1_elim h
    refine z_callV (As := []) zcX12 zkX12_354 ziX12_all zqX12_all h0.1 (tX12_all T k0 S69 h0 r70 hc71) rfl rfl (Nat.le_of_ble_eq_true rfl) (by decide) ⟨Nat.le_refl _, Nat.le_refl _⟩ ⟨Nat.le_refl _, Nat.le_refl _⟩ dX12_book_206 ?_
    obtain ⟨r72, hc73, h⟩ := zb1_elim h
    refine z_callS (As := [.int r70]) zkX12_357 zsX12_bits (tX12_bits T r70 S69  r72 hc73) rfl rfl (Nat.le_of_ble_eq_true rfl) (by decide) ⟨Nat.le_refl _, Nat.le_refl _⟩ ⟨Nat.le_refl _, Nat.le_refl _⟩ dX12_book_209 ?_
    rw [← Option.some.inj h]
    exact z_iret rfl dX12_book_212
  · rw [if_neg q8] at h
    refine z_bipush dX12_book_19 cB_m2 ?_
    refine z_iload_n dX12_book_21 rfl ?_
    refine z_isub dX12_book_22 rfl ?_
    rw [← Option.some.inj h]
    exact z_iret rfl dX12_book_23
/-! X12_rule -/
noncomputable def fX12_rule_b61 (T : zT) (s0 : Int32) (S : zS) : Option (Int32 × zS) :=
  some (s0, S)
noncomputable def fX12_rule_b40 (T : zT) (k0 : Nat) (x1 : Int32) (s0 : Int32) (s1 : Int32) (s2 : Nat) (S : zS) : Option (Int32 × zS) :=
  zlet (zI S s2 5 (s1 + s0)) fun S7 => if x1 ≤ 0 then fX12_rule_b61 T ((S7.1 k0 5) - 1) S7 else fX12_rule_b61 T ((-2) - x1) S7
noncomputable def fX12_rule (T : zT) (k0 : Nat) (S : zS) : Option (Int32 × zS) :=
  if (S.1 k0 5) = 6 then some ((-1), S) else zlet (zI S k0 4 (2 + (S.1 k0 5))) fun S2 => zb (fX12_reads T k0 S2) fun r3 S5 => if r3 = 0 then fX12_rule_b40 T k0 r3 1 (S5.1 k0 5) k0 S5 else fX12_rule_b40 T k0 r3 0 (S5.1 k0 5) k0 S5
set_option maxHeartbeats 4000000 in
set_option maxRecDepth 100000 in
theorem tX12_rule_b61 (T : zT) (s0 : Int32) (S : zS)  {g : zG} (r : (Int32 × zS)) (h : fX12_rule_b61 T s0 S = some r)  : zg g 15 mX12_rule T 61 [none, none] [.int s0] T S (some (.int r.1)) T r.2 := by
  unfold fX12_rule_b61 at h
  cases h
  exact z_iret rfl dX12_rule_61
set_option maxHeartbeats 4000000 in
set_option maxRecDepth 100000 in
theorem tX12_rule_b40 (T : zT) (k0 : Nat) (x1 : Int32) (s0 : Int32) (s1 : Int32) (s2 : Nat) (S : zS) (h0 : iX12 T k0) (g2 : iX12 T s2) {g : zG} (r : (Int32 × zS)) (h : fX12_rule_b40 T k0 x1 s0 s1 s2 S = some r)  : zg g 15 mX12_rule T 40 [some (.ref k0), some (.int x1)] [.int s0, .int s1, .ref s2] T S (some (.int r.1)) T r.2 := by
  unfold fX12_rule_b40 at h
  refine z_iadd dX12_rule_40 rfl ?_
  refine z_putI zfX12_360 g2.1 dX12_rule_41 ?_
  obtain ⟨S7, eS7, h⟩ := zlet_elim h
  refine z_tS eS7 ?_
  refine z_iload_n dX12_rule_44 rfl ?_
  refine z_if_le (tgt := 55) dX12_rule_45 (by decide) (fun q8 => ?_) (fun q8 => ?_)
  · rw [if_pos q8] at h
    refine z_aload_n dX12_rule_55 rfl ?_
    refine z_gI (zF.x zfX12_360) h0.1 dX12_rule_56 ?_
    refine z_iconst dX12_rule_59 cI_1 ?_
    refine z_isub dX12_rule_60 rfl ?_
    exact z_mask [false, false] rfl (tX12_rule_b61 T ((S7.1 k0 5) - 1) S7  r h)
  · rw [if_neg q8] at h
    refine z_bipush dX12_rule_48 cB_m2 ?_
    refine z_iload_n dX12_rule_50 rfl ?_
    refine z_isub dX12_rule_51 rfl ?_
    refine z_goto (tgt := 61) dX12_rule_52 (by decide) ?_
    exact z_mask [false, false] rfl (tX12_rule_b61 T ((-2) - x1) S7  r h)
set_option maxHeartbeats 4000000 in
set_option maxRecDepth 100000 in
theorem tX12_rule (T : zT) (k0 : Nat) (S : zS) (h0 : iX12 T k0) (r : Int32 × zS) (h : fX12_rule T k0 S = some r) : zGM 15 mX12_rule [.ref k0] T S (some (.int r.1)) T r.2 := by
  refine zGM_of zpnX12 rfl (Nat.le_of_ble_eq_true rfl) (fun g => ?_)
  show zg g 15 mX12_rule T 0 [some (.ref k0), none] [] T S (some (.int r.1)) T r.2
  unfold fX12_rule at h
  refine z_aload_n dX12_rule_0 rfl ?_
  refine z_gI (zF.x zfX12_360) h0.1 dX12_rule_1 ?_
  refine z_bipush dX12_rule_4 cB_6 ?_
  refine z_icmp_ne (tgt := 11) dX12_rule_6 (by decide) (fun q1 => ?_) (fun q1 => ?_)
  · rw [if_neg q1] at h
    refine z_aload_n dX12_rule_11 rfl ?_
    refine z_iconst dX12_rule_12 cI_2 ?_
    refine z_aload_n dX12_rule_13 rfl ?_
    refine z_gI (zF.x zfX12_360) h0.1 dX12_rule_14 ?_
    refine z_iadd dX12_rule_17 rfl ?_
    refine z_putI zfX12_153 h0.1 dX12_rule_18 ?_
    obtain ⟨S2, eS2, h⟩ := zlet_elim h
    refine z_tS eS2 ?_
    refine z_aload_n dX12_rule_21 rfl ?_
    obtain ⟨r3, S5, hc4, h⟩ := zb_elim h
    refine z_callV (As := []) zcX12 zkX12_344 ziX12_reads zqX12_reads h0.1 (tX12_reads T k0 S2 h0 (r3, S5) hc4) rfl rfl (Nat.le_of_ble_eq_true rfl) (by decide) ⟨Nat.le_refl _, Nat.le_refl _⟩ ⟨Nat.le_refl _, Nat.le_refl _⟩ dX12_rule_22 ?_
    refine z_istore_n dX12_rule_25 rfl (by decide) rfl ?_
    refine z_aload_n dX12_rule_26 rfl ?_
    refine z_dup dX12_rule_27 rfl ?_
    refine z_gI (zF.x zfX12_360) h0.1 dX12_rule_28 ?_
    refine z_iload_n dX12_rule_31 rfl ?_
    refine z_if_ne (tgt := 39) dX12_rule_32 (by decide) (fun q6 => ?_) (fun q6 => ?_)
    · rw [if_neg q6] at h
      refine z_iconst dX12_rule_39 cI_0 ?_
      exact z_mask [true, true] rfl (tX12_rule_b40 T k0 r3 0 (S5.1 k0 5) k0 S5 h0 h0 r h)
    · rw [if_pos q6] at h
      refine z_iconst dX12_rule_35 cI_1 ?_
      refine z_goto (tgt := 40) dX12_rule_36 (by decide) ?_
      exact z_mask [true, true] rfl (tX12_rule_b40 T k0 r3 1 (S5.1 k0 5) k0 S5 h0 h0 r h)
  · rw [if_pos q1] at h
    refine z_iconst dX12_rule_9 cI_m1 ?_
    cases h
    exact z_iret rfl dX12_rule_10
