theorem z_tT {g : zG} {d : Nat} {M : zM} {T0 T T' X : zT} {pc : Nat} {ls : List (Option Value)} {st : List Value} {S S' : zS} {v : Option Value} (h : X = T) (k : zg g d M T0 pc ls st X S v T' S') : zg g d M T0 pc ls st T S v T' S' := h ▸ k
theorem z_tr {g : zG} {d : Nat} {M : zM} {T0 T T' : zT} {pc : Nat} {ls : List (Option Value)} {st : List Value} {S S' : zS} {v : Option Value} {a b : Nat} (h : b = a) (k : zg g d M T0 pc ls (.ref b :: st) T S v T' S') : zg g d M T0 pc ls (.ref a :: st) T S v T' S' := h ▸ k
def TT0 : zT := (0, 0, fun _ => 0, fun _ => 0, fun _ _ => 10000)
noncomputable def SS0 : zS := (fun _ _ => 0, fun _ _ => 0)
def TT1 : zT := zNT TT0 11 0 16
noncomputable def SS1 : zS := zNS TT0 SS0
def TT2 : zT := zNT TT1 20 400 400
noncomputable def SS2 : zS := zNS TT1 SS1
def TT3 : zT := zQ TT2 0 0 1
def TT4 : zT := zNT TT3 6 0 10
noncomputable def SS3 : zS := zNS TT3 SS2
def TT5 : zT := zNT TT4 10 0 4
noncomputable def SS4 : zS := zNS TT4 SS3
def TT6 : zT := zNT TT5 20 401 401
noncomputable def SS5 : zS := zNS TT5 SS4
def TT7 : zT := zQ TT6 3 0 4
def TT8 : zT := zNT TT7 20 401 401
noncomputable def SS6 : zS := zNS TT7 SS5
def TT9 : zT := zQ TT8 3 1 5
def TT10 : zT := zNT TT9 20 401 401
noncomputable def SS7 : zS := zNS TT9 SS6
def TT11 : zT := zQ TT10 3 2 6
set_option maxHeartbeats 4000000 in
set_option maxRecDepth 100000 in
theorem ck0 : zGM 1 mX10_init [.ref 3] TT5 SS4 none TT11 SS7 := by
  refine zGM_of zpnX10 rfl (Nat.le_of_ble_eq_true rfl) (fun g => ?_)
  show zg g 1 mX10_init TT5 0 [some (.ref 3)] [] TT5 SS4 none TT11 SS7
  refine z_aload_n dX10_init_0 rfl ?_
  refine z_objInit (by decide) zoX10_3 zoi_inst zoi_code (by decide) (Nat.le_of_ble_eq_true rfl) dX10_init_1 ?_
  refine z_aload_n dX10_init_4 rfl ?_
  refine z_sipush (r := 401) dX10_init_5 (by decide) ?_
  refine z_newA (at0 := .int) (ty := .int) (kd := 20) (N := 401) rfl zac_int (Or.inl ⟨rfl, rfl⟩) (by decide) (by decide) (by decide) (by decide +kernel) (by decide +kernel) (by decide +kernel) dX10_init_8 ?_
  refine z_tT (X := TT6) rfl ?_
  refine z_tS (X := SS5) rfl ?_
  refine z_tr (b := 4) (by decide +kernel) ?_
  refine z_putR zfX10_9 (Or.inr ⟨_, rfl⟩) (fun _ => rfl) ⟨by decide +kernel, by decide +kernel⟩ dX10_init_10 ?_
  refine z_tT (X := TT7) rfl ?_
  refine z_aload_n dX10_init_13 rfl ?_
  refine z_sipush (r := 401) dX10_init_14 (by decide) ?_
  refine z_newA (at0 := .int) (ty := .int) (kd := 20) (N := 401) rfl zac_int (Or.inl ⟨rfl, rfl⟩) (by decide) (by decide) (by decide) (by decide +kernel) (by decide +kernel) (by decide +kernel) dX10_init_17 ?_
  refine z_tT (X := TT8) rfl ?_
  refine z_tS (X := SS6) rfl ?_
  refine z_tr (b := 5) (by decide +kernel) ?_
  refine z_putR zfX10_15 (Or.inr ⟨_, rfl⟩) (fun _ => rfl) ⟨by decide +kernel, by decide +kernel⟩ dX10_init_19 ?_
  refine z_tT (X := TT9) rfl ?_
  refine z_aload_n dX10_init_22 rfl ?_
  refine z_sipush (r := 401) dX10_init_23 (by decide) ?_
  refine z_newA (at0 := .int) (ty := .int) (kd := 20) (N := 401) rfl zac_int (Or.inl ⟨rfl, rfl⟩) (by decide) (by decide) (by decide) (by decide +kernel) (by decide +kernel) (by decide +kernel) dX10_init_26 ?_
  refine z_tT (X := TT10) rfl ?_
  refine z_tS (X := SS7) rfl ?_
  refine z_tr (b := 6) (by decide +kernel) ?_
  refine z_putR zfX10_18 (Or.inr ⟨_, rfl⟩) (fun _ => rfl) ⟨by decide +kernel, by decide +kernel⟩ dX10_init_28 ?_
  refine z_tT (X := TT11) rfl ?_
  exact z_vret rfl dX10_init_31
def TT12 : zT := zQ TT11 2 0 3
set_option maxHeartbeats 4000000 in
set_option maxRecDepth 100000 in
theorem ck1 : zGM 2 mX6_init [.ref 2] TT4 SS3 none TT12 SS7 := by
  refine zGM_of zpnX6 rfl (Nat.le_of_ble_eq_true rfl) (fun g => ?_)
  show zg g 2 mX6_init TT4 0 [some (.ref 2)] [] TT4 SS3 none TT12 SS7
  refine z_aload_n dX6_init_0 rfl ?_
  refine z_objInit (by decide) zoX6_3 zoi_inst zoi_code (by decide) (Nat.le_of_ble_eq_true rfl) dX6_init_1 ?_
  refine z_aload_n dX6_init_4 rfl ?_
  refine z_new zcX10 zdfX10 zwX6_9 zvX10 zjX10 (by decide +kernel) (by decide +kernel) (by decide +kernel) dX6_init_5 ?_
  refine z_tT (X := TT5) rfl ?_
  refine z_tS (X := SS4) rfl ?_
  refine z_tr (b := 3) (by decide +kernel) ?_
  refine z_dup dX6_init_8 rfl ?_
  refine z_callI (ci := 10) (As := []) rfl rfl zkX6_11 ziX10_init ⟨by decide +kernel, by decide +kernel⟩ ck0 rfl rfl (Nat.le_of_ble_eq_true rfl) (by decide) ⟨(by decide +kernel), (by decide +kernel)⟩ ⟨(by decide +kernel), (by decide +kernel)⟩ dX6_init_9 ?_
  refine z_putR zfX6_12 (Or.inl ⟨_, rfl⟩) (fun _ => rfl) ⟨by decide +kernel, by decide +kernel⟩ dX6_init_12 ?_
  refine z_tT (X := TT12) rfl ?_
  exact z_vret rfl dX6_init_15
def TT13 : zT := zQ TT12 0 2 2
def TT14 : zT := zNT TT13 0 0 15
noncomputable def SS8 : zS := zNS TT13 SS7
def TT15 : zT := zNT TT14 20 8 8
noncomputable def SS9 : zS := zNS TT14 SS8
def TT16 : zT := zQ TT15 7 6 8
def TT17 : zT := zNT TT16 20 8 8
noncomputable def SS10 : zS := zNS TT16 SS9
def TT18 : zT := zQ TT17 7 7 9
def TT19 : zT := zNT TT18 20 8 8
noncomputable def SS11 : zS := zNS TT18 SS10
def TT20 : zT := zQ TT19 7 8 10
def TT21 : zT := zNT TT20 20 8 8
noncomputable def SS12 : zS := zNS TT20 SS11
def TT22 : zT := zQ TT21 7 9 11
def TT23 : zT := zNT TT22 20 8 8
noncomputable def SS13 : zS := zNS TT22 SS12
def TT24 : zT := zQ TT23 7 10 12
def TT25 : zT := zNT TT24 20 8 8
noncomputable def SS14 : zS := zNS TT24 SS13
def TT26 : zT := zQ TT25 7 11 13
def TT27 : zT := zNT TT26 1 0 4
noncomputable def SS15 : zS := zNS TT26 SS14
def TT28 : zT := zNT TT27 20 24 24
noncomputable def SS16 : zS := zNS TT27 SS15
def TT29 : zT := zQ TT28 14 0 15
def TT30 : zT := zNT TT29 20 24 24
noncomputable def SS17 : zS := zNS TT29 SS16
def TT31 : zT := zQ TT30 14 1 16
def TT32 : zT := zNT TT31 20 24 24
noncomputable def SS18 : zS := zNS TT31 SS17
def TT33 : zT := zQ TT32 14 2 17
set_option maxHeartbeats 4000000 in
set_option maxRecDepth 100000 in
theorem ck2 : zGM 1 mX1_init [.ref 14] TT27 SS15 none TT33 SS18 := by
  refine zGM_of zpnX1 rfl (Nat.le_of_ble_eq_true rfl) (fun g => ?_)
  show zg g 1 mX1_init TT27 0 [some (.ref 14)] [] TT27 SS15 none TT33 SS18
  refine z_aload_n dX1_init_0 rfl ?_
  refine z_objInit (by decide) zoX1_3 zoi_inst zoi_code (by decide) (Nat.le_of_ble_eq_true rfl) dX1_init_1 ?_
  refine z_aload_n dX1_init_4 rfl ?_
  refine z_bipush (r := 24) dX1_init_5 (by decide) ?_
  refine z_newA (at0 := .int) (ty := .int) (kd := 20) (N := 24) rfl zac_int (Or.inl ⟨rfl, rfl⟩) (by decide) (by decide) (by decide) (by decide +kernel) (by decide +kernel) (by decide +kernel) dX1_init_7 ?_
  refine z_tT (X := TT28) rfl ?_
  refine z_tS (X := SS16) rfl ?_
  refine z_tr (b := 15) (by decide +kernel) ?_
  refine z_putR zfX1_9 (Or.inr ⟨_, rfl⟩) (fun _ => rfl) ⟨by decide +kernel, by decide +kernel⟩ dX1_init_9 ?_
  refine z_tT (X := TT29) rfl ?_
  refine z_aload_n dX1_init_12 rfl ?_
  refine z_bipush (r := 24) dX1_init_13 (by decide) ?_
  refine z_newA (at0 := .int) (ty := .int) (kd := 20) (N := 24) rfl zac_int (Or.inl ⟨rfl, rfl⟩) (by decide) (by decide) (by decide) (by decide +kernel) (by decide +kernel) (by decide +kernel) dX1_init_15 ?_
  refine z_tT (X := TT30) rfl ?_
  refine z_tS (X := SS17) rfl ?_
  refine z_tr (b := 16) (by decide +kernel) ?_
  refine z_putR zfX1_15 (Or.inr ⟨_, rfl⟩) (fun _ => rfl) ⟨by decide +kernel, by decide +kernel⟩ dX1_init_17 ?_
  refine z_tT (X := TT31) rfl ?_
  refine z_aload_n dX1_init_20 rfl ?_
  refine z_bipush (r := 24) dX1_init_21 (by decide) ?_
  refine z_newA (at0 := .int) (ty := .int) (kd := 20) (N := 24) rfl zac_int (Or.inl ⟨rfl, rfl⟩) (by decide) (by decide) (by decide) (by decide +kernel) (by decide +kernel) (by decide +kernel) dX1_init_23 ?_
  refine z_tT (X := TT32) rfl ?_
  refine z_tS (X := SS18) rfl ?_
  refine z_tr (b := 17) (by decide +kernel) ?_
  refine z_putR zfX1_18 (Or.inr ⟨_, rfl⟩) (fun _ => rfl) ⟨by decide +kernel, by decide +kernel⟩ dX1_init_25 ?_
  refine z_tT (X := TT33) rfl ?_
  exact z_vret rfl dX1_init_28
def TT34 : zT := zQ TT33 7 12 14
def TT35 : zT := zNT TT34 1 0 4
noncomputable def SS19 : zS := zNS TT34 SS18
def TT36 : zT := zNT TT35 20 24 24
noncomputable def SS20 : zS := zNS TT35 SS19
def TT37 : zT := zQ TT36 18 0 19
def TT38 : zT := zNT TT37 20 24 24
noncomputable def SS21 : zS := zNS TT37 SS20
def TT39 : zT := zQ TT38 18 1 20
def TT40 : zT := zNT TT39 20 24 24
noncomputable def SS22 : zS := zNS TT39 SS21
def TT41 : zT := zQ TT40 18 2 21
set_option maxHeartbeats 4000000 in
set_option maxRecDepth 100000 in
theorem ck3 : zGM 1 mX1_init [.ref 18] TT35 SS19 none TT41 SS22 := by
  refine zGM_of zpnX1 rfl (Nat.le_of_ble_eq_true rfl) (fun g => ?_)
  show zg g 1 mX1_init TT35 0 [some (.ref 18)] [] TT35 SS19 none TT41 SS22
  refine z_aload_n dX1_init_0 rfl ?_
  refine z_objInit (by decide) zoX1_3 zoi_inst zoi_code (by decide) (Nat.le_of_ble_eq_true rfl) dX1_init_1 ?_
  refine z_aload_n dX1_init_4 rfl ?_
  refine z_bipush (r := 24) dX1_init_5 (by decide) ?_
  refine z_newA (at0 := .int) (ty := .int) (kd := 20) (N := 24) rfl zac_int (Or.inl ⟨rfl, rfl⟩) (by decide) (by decide) (by decide) (by decide +kernel) (by decide +kernel) (by decide +kernel) dX1_init_7 ?_
  refine z_tT (X := TT36) rfl ?_
  refine z_tS (X := SS20) rfl ?_
  refine z_tr (b := 19) (by decide +kernel) ?_
  refine z_putR zfX1_9 (Or.inr ⟨_, rfl⟩) (fun _ => rfl) ⟨by decide +kernel, by decide +kernel⟩ dX1_init_9 ?_
  refine z_tT (X := TT37) rfl ?_
  refine z_aload_n dX1_init_12 rfl ?_
  refine z_bipush (r := 24) dX1_init_13 (by decide) ?_
  refine z_newA (at0 := .int) (ty := .int) (kd := 20) (N := 24) rfl zac_int (Or.inl ⟨rfl, rfl⟩) (by decide) (by decide) (by decide) (by decide +kernel) (by decide +kernel) (by decide +kernel) dX1_init_15 ?_
  refine z_tT (X := TT38) rfl ?_
  refine z_tS (X := SS21) rfl ?_
  refine z_tr (b := 20) (by decide +kernel) ?_
  refine z_putR zfX1_15 (Or.inr ⟨_, rfl⟩) (fun _ => rfl) ⟨by decide +kernel, by decide +kernel⟩ dX1_init_17 ?_
  refine z_tT (X := TT39) rfl ?_
  refine z_aload_n dX1_init_20 rfl ?_
  refine z_bipush (r := 24) dX1_init_21 (by decide) ?_
  refine z_newA (at0 := .int) (ty := .int) (kd := 20) (N := 24) rfl zac_int (Or.inl ⟨rfl, rfl⟩) (by decide) (by decide) (by decide) (by decide +kernel) (by decide +kernel) (by decide +kernel) dX1_init_23 ?_
  refine z_tT (X := TT40) rfl ?_
  refine z_tS (X := SS22) rfl ?_
  refine z_tr (b := 21) (by decide +kernel) ?_
  refine z_putR zfX1_18 (Or.inr ⟨_, rfl⟩) (fun _ => rfl) ⟨by decide +kernel, by decide +kernel⟩ dX1_init_25 ?_
  refine z_tT (X := TT41) rfl ?_
  exact z_vret rfl dX1_init_28
def TT42 : zT := zQ TT41 7 13 18
def TT43 : zT := zNT TT42 2 0 3
noncomputable def SS23 : zS := zNS TT42 SS22
def TT44 : zT := zNT TT43 20 512 512
noncomputable def SS24 : zS := zNS TT43 SS23
def TT45 : zT := zQ TT44 22 0 23
set_option maxHeartbeats 4000000 in
set_option maxRecDepth 100000 in
theorem ck4 : zGM 1 mX2_init [.ref 22] TT43 SS23 none TT45 SS24 := by
  refine zGM_of zpnX2 rfl (Nat.le_of_ble_eq_true rfl) (fun g => ?_)
  show zg g 1 mX2_init TT43 0 [some (.ref 22)] [] TT43 SS23 none TT45 SS24
  refine z_aload_n dX2_init_0 rfl ?_
  refine z_objInit (by decide) zoX2_3 zoi_inst zoi_code (by decide) (Nat.le_of_ble_eq_true rfl) dX2_init_1 ?_
  refine z_aload_n dX2_init_4 rfl ?_
  refine z_sipush (r := 512) dX2_init_5 (by decide) ?_
  refine z_newA (at0 := .int) (ty := .int) (kd := 20) (N := 512) rfl zac_int (Or.inl ⟨rfl, rfl⟩) (by decide) (by decide) (by decide) (by decide +kernel) (by decide +kernel) (by decide +kernel) dX2_init_8 ?_
  refine z_tT (X := TT44) rfl ?_
  refine z_tS (X := SS24) rfl ?_
  refine z_tr (b := 23) (by decide +kernel) ?_
  refine z_putR zfX2_9 (Or.inr ⟨_, rfl⟩) (fun _ => rfl) ⟨by decide +kernel, by decide +kernel⟩ dX2_init_10 ?_
  refine z_tT (X := TT45) rfl ?_
  exact z_vret rfl dX2_init_13
def TT46 : zT := zQ TT45 7 14 22
theorem fx5 : iX0 TT46 7 := ⟨⟨by decide +kernel, by decide +kernel⟩, ⟨by decide +kernel, by decide +kernel, by decide +kernel⟩, ⟨by decide +kernel, by decide +kernel, by decide +kernel⟩, ⟨by decide +kernel, by decide +kernel, by decide +kernel⟩, ⟨by decide +kernel, by decide +kernel, by decide +kernel⟩, ⟨by decide +kernel, by decide +kernel, by decide +kernel⟩, ⟨by decide +kernel, by decide +kernel, by decide +kernel⟩, ⟨⟨by decide +kernel, by decide +kernel⟩, ⟨by decide +kernel, by decide +kernel, by decide +kernel⟩, ⟨by decide +kernel, by decide +kernel, by decide +kernel⟩, ⟨by decide +kernel, by decide +kernel, by decide +kernel⟩⟩, ⟨⟨by decide +kernel, by decide +kernel⟩, ⟨by decide +kernel, by decide +kernel, by decide +kernel⟩, ⟨by decide +kernel, by decide +kernel, by decide +kernel⟩, ⟨by decide +kernel, by decide +kernel, by decide +kernel⟩⟩, ⟨⟨by decide +kernel, by decide +kernel⟩, ⟨by decide +kernel, by decide +kernel, by decide +kernel⟩⟩⟩
noncomputable def SS25 : zS := (match fX0_clear TT46 7 SS24 with | some r => r.2 | none => SS24)
set_option maxHeartbeats 4000000 in
set_option maxRecDepth 100000 in
theorem ck6 : zGM 2 mX0_init [.ref 7] TT14 SS8 none TT46 SS25 := by
  refine zGM_of zpnX0 rfl (Nat.le_of_ble_eq_true rfl) (fun g => ?_)
  show zg g 2 mX0_init TT14 0 [some (.ref 7)] [] TT14 SS8 none TT46 SS25
  refine z_aload_n dX0_init_0 rfl ?_
  refine z_objInit (by decide) zoX0_3 zoi_inst zoi_code (by decide) (Nat.le_of_ble_eq_true rfl) dX0_init_1 ?_
  refine z_aload_n dX0_init_4 rfl ?_
  refine z_bipush (r := 8) dX0_init_5 (by decide) ?_
  refine z_newA (at0 := .int) (ty := .int) (kd := 20) (N := 8) rfl zac_int (Or.inl ⟨rfl, rfl⟩) (by decide) (by decide) (by decide) (by decide +kernel) (by decide +kernel) (by decide +kernel) dX0_init_7 ?_
  refine z_tT (X := TT15) rfl ?_
  refine z_tS (X := SS9) rfl ?_
  refine z_tr (b := 8) (by decide +kernel) ?_
  refine z_putR zfX0_9 (Or.inr ⟨_, rfl⟩) (fun _ => rfl) ⟨by decide +kernel, by decide +kernel⟩ dX0_init_9 ?_
  refine z_tT (X := TT16) rfl ?_
  refine z_aload_n dX0_init_12 rfl ?_
  refine z_bipush (r := 8) dX0_init_13 (by decide) ?_
  refine z_newA (at0 := .int) (ty := .int) (kd := 20) (N := 8) rfl zac_int (Or.inl ⟨rfl, rfl⟩) (by decide) (by decide) (by decide) (by decide +kernel) (by decide +kernel) (by decide +kernel) dX0_init_15 ?_
  refine z_tT (X := TT17) rfl ?_
  refine z_tS (X := SS10) rfl ?_
  refine z_tr (b := 9) (by decide +kernel) ?_
  refine z_putR zfX0_15 (Or.inr ⟨_, rfl⟩) (fun _ => rfl) ⟨by decide +kernel, by decide +kernel⟩ dX0_init_17 ?_
  refine z_tT (X := TT18) rfl ?_
  refine z_aload_n dX0_init_20 rfl ?_
  refine z_bipush (r := 8) dX0_init_21 (by decide) ?_
  refine z_newA (at0 := .int) (ty := .int) (kd := 20) (N := 8) rfl zac_int (Or.inl ⟨rfl, rfl⟩) (by decide) (by decide) (by decide) (by decide +kernel) (by decide +kernel) (by decide +kernel) dX0_init_23 ?_
  refine z_tT (X := TT19) rfl ?_
  refine z_tS (X := SS11) rfl ?_
  refine z_tr (b := 10) (by decide +kernel) ?_
  refine z_putR zfX0_18 (Or.inr ⟨_, rfl⟩) (fun _ => rfl) ⟨by decide +kernel, by decide +kernel⟩ dX0_init_25 ?_
  refine z_tT (X := TT20) rfl ?_
  refine z_aload_n dX0_init_28 rfl ?_
  refine z_bipush (r := 8) dX0_init_29 (by decide) ?_
  refine z_newA (at0 := .int) (ty := .int) (kd := 20) (N := 8) rfl zac_int (Or.inl ⟨rfl, rfl⟩) (by decide) (by decide) (by decide) (by decide +kernel) (by decide +kernel) (by decide +kernel) dX0_init_31 ?_
  refine z_tT (X := TT21) rfl ?_
  refine z_tS (X := SS12) rfl ?_
  refine z_tr (b := 11) (by decide +kernel) ?_
  refine z_putR zfX0_21 (Or.inr ⟨_, rfl⟩) (fun _ => rfl) ⟨by decide +kernel, by decide +kernel⟩ dX0_init_33 ?_
  refine z_tT (X := TT22) rfl ?_
  refine z_aload_n dX0_init_36 rfl ?_
  refine z_bipush (r := 8) dX0_init_37 (by decide) ?_
  refine z_newA (at0 := .int) (ty := .int) (kd := 20) (N := 8) rfl zac_int (Or.inl ⟨rfl, rfl⟩) (by decide) (by decide) (by decide) (by decide +kernel) (by decide +kernel) (by decide +kernel) dX0_init_39 ?_
  refine z_tT (X := TT23) rfl ?_
  refine z_tS (X := SS13) rfl ?_
  refine z_tr (b := 12) (by decide +kernel) ?_
  refine z_putR zfX0_24 (Or.inr ⟨_, rfl⟩) (fun _ => rfl) ⟨by decide +kernel, by decide +kernel⟩ dX0_init_41 ?_
  refine z_tT (X := TT24) rfl ?_
  refine z_aload_n dX0_init_44 rfl ?_
  refine z_bipush (r := 8) dX0_init_45 (by decide) ?_
  refine z_newA (at0 := .int) (ty := .int) (kd := 20) (N := 8) rfl zac_int (Or.inl ⟨rfl, rfl⟩) (by decide) (by decide) (by decide) (by decide +kernel) (by decide +kernel) (by decide +kernel) dX0_init_47 ?_
  refine z_tT (X := TT25) rfl ?_
  refine z_tS (X := SS14) rfl ?_
  refine z_tr (b := 13) (by decide +kernel) ?_
  refine z_putR zfX0_27 (Or.inr ⟨_, rfl⟩) (fun _ => rfl) ⟨by decide +kernel, by decide +kernel⟩ dX0_init_49 ?_
  refine z_tT (X := TT26) rfl ?_
  refine z_aload_n dX0_init_52 rfl ?_
  refine z_new zcX1 zdfX1 zwX0_30 zvX1 zjX1 (by decide +kernel) (by decide +kernel) (by decide +kernel) dX0_init_53 ?_
  refine z_tT (X := TT27) rfl ?_
  refine z_tS (X := SS15) rfl ?_
  refine z_tr (b := 14) (by decide +kernel) ?_
  refine z_dup dX0_init_56 rfl ?_
  refine z_callI (ci := 1) (As := []) rfl rfl zkX0_32 ziX1_init ⟨by decide +kernel, by decide +kernel⟩ ck2 rfl rfl (Nat.le_of_ble_eq_true rfl) (by decide) ⟨(by decide +kernel), (by decide +kernel)⟩ ⟨(by decide +kernel), (by decide +kernel)⟩ dX0_init_57 ?_
  refine z_putR zfX0_33 (Or.inl ⟨_, rfl⟩) (fun _ => rfl) ⟨by decide +kernel, by decide +kernel⟩ dX0_init_60 ?_
  refine z_tT (X := TT34) rfl ?_
  refine z_aload_n dX0_init_63 rfl ?_
  refine z_new zcX1 zdfX1 zwX0_30 zvX1 zjX1 (by decide +kernel) (by decide +kernel) (by decide +kernel) dX0_init_64 ?_
  refine z_tT (X := TT35) rfl ?_
  refine z_tS (X := SS19) rfl ?_
  refine z_tr (b := 18) (by decide +kernel) ?_
  refine z_dup dX0_init_67 rfl ?_
  refine z_callI (ci := 1) (As := []) rfl rfl zkX0_32 ziX1_init ⟨by decide +kernel, by decide +kernel⟩ ck3 rfl rfl (Nat.le_of_ble_eq_true rfl) (by decide) ⟨(by decide +kernel), (by decide +kernel)⟩ ⟨(by decide +kernel), (by decide +kernel)⟩ dX0_init_68 ?_
  refine z_putR zfX0_37 (Or.inl ⟨_, rfl⟩) (fun _ => rfl) ⟨by decide +kernel, by decide +kernel⟩ dX0_init_71 ?_
  refine z_tT (X := TT42) rfl ?_
  refine z_aload_n dX0_init_74 rfl ?_
  refine z_new zcX2 zdfX2 zwX0_40 zvX2 zjX2 (by decide +kernel) (by decide +kernel) (by decide +kernel) dX0_init_75 ?_
  refine z_tT (X := TT43) rfl ?_
  refine z_tS (X := SS23) rfl ?_
  refine z_tr (b := 22) (by decide +kernel) ?_
  refine z_dup dX0_init_78 rfl ?_
  refine z_callI (ci := 2) (As := []) rfl rfl zkX0_42 ziX2_init ⟨by decide +kernel, by decide +kernel⟩ ck4 rfl rfl (Nat.le_of_ble_eq_true rfl) (by decide) ⟨(by decide +kernel), (by decide +kernel)⟩ ⟨(by decide +kernel), (by decide +kernel)⟩ dX0_init_79 ?_
  refine z_putR zfX0_43 (Or.inl ⟨_, rfl⟩) (fun _ => rfl) ⟨by decide +kernel, by decide +kernel⟩ dX0_init_82 ?_
  refine z_tT (X := TT46) rfl ?_
  refine z_aload_n dX0_init_85 rfl ?_
  refine z_callV (As := []) zcX0 zkX0_47 ziX0_clear zqX0_clear ⟨by decide +kernel, by decide +kernel⟩ (tX0_clear TT46 7 SS24 fx5 ((), SS25) rfl) rfl rfl (Nat.le_of_ble_eq_true rfl) (by decide) ⟨Nat.le_refl _, Nat.le_refl _⟩ ⟨(by decide +kernel), (by decide +kernel)⟩ dX0_init_86 ?_
  exact z_vret rfl dX0_init_89
def TT47 : zT := zQ TT46 0 3 7
def TT48 : zT := zNT TT47 0 0 15
noncomputable def SS26 : zS := zNS TT47 SS25
def TT49 : zT := zNT TT48 20 8 8
noncomputable def SS27 : zS := zNS TT48 SS26
def TT50 : zT := zQ TT49 24 6 25
def TT51 : zT := zNT TT50 20 8 8
noncomputable def SS28 : zS := zNS TT50 SS27
def TT52 : zT := zQ TT51 24 7 26
def TT53 : zT := zNT TT52 20 8 8
noncomputable def SS29 : zS := zNS TT52 SS28
def TT54 : zT := zQ TT53 24 8 27
def TT55 : zT := zNT TT54 20 8 8
noncomputable def SS30 : zS := zNS TT54 SS29
def TT56 : zT := zQ TT55 24 9 28
def TT57 : zT := zNT TT56 20 8 8
noncomputable def SS31 : zS := zNS TT56 SS30
def TT58 : zT := zQ TT57 24 10 29
def TT59 : zT := zNT TT58 20 8 8
noncomputable def SS32 : zS := zNS TT58 SS31
def TT60 : zT := zQ TT59 24 11 30
def TT61 : zT := zNT TT60 1 0 4
noncomputable def SS33 : zS := zNS TT60 SS32
def TT62 : zT := zNT TT61 20 24 24
noncomputable def SS34 : zS := zNS TT61 SS33
def TT63 : zT := zQ TT62 31 0 32
def TT64 : zT := zNT TT63 20 24 24
noncomputable def SS35 : zS := zNS TT63 SS34
def TT65 : zT := zQ TT64 31 1 33
def TT66 : zT := zNT TT65 20 24 24
noncomputable def SS36 : zS := zNS TT65 SS35
def TT67 : zT := zQ TT66 31 2 34
set_option maxHeartbeats 4000000 in
set_option maxRecDepth 100000 in
theorem ck7 : zGM 1 mX1_init [.ref 31] TT61 SS33 none TT67 SS36 := by
  refine zGM_of zpnX1 rfl (Nat.le_of_ble_eq_true rfl) (fun g => ?_)
  show zg g 1 mX1_init TT61 0 [some (.ref 31)] [] TT61 SS33 none TT67 SS36
  refine z_aload_n dX1_init_0 rfl ?_
  refine z_objInit (by decide) zoX1_3 zoi_inst zoi_code (by decide) (Nat.le_of_ble_eq_true rfl) dX1_init_1 ?_
  refine z_aload_n dX1_init_4 rfl ?_
  refine z_bipush (r := 24) dX1_init_5 (by decide) ?_
  refine z_newA (at0 := .int) (ty := .int) (kd := 20) (N := 24) rfl zac_int (Or.inl ⟨rfl, rfl⟩) (by decide) (by decide) (by decide) (by decide +kernel) (by decide +kernel) (by decide +kernel) dX1_init_7 ?_
  refine z_tT (X := TT62) rfl ?_
  refine z_tS (X := SS34) rfl ?_
  refine z_tr (b := 32) (by decide +kernel) ?_
  refine z_putR zfX1_9 (Or.inr ⟨_, rfl⟩) (fun _ => rfl) ⟨by decide +kernel, by decide +kernel⟩ dX1_init_9 ?_
  refine z_tT (X := TT63) rfl ?_
  refine z_aload_n dX1_init_12 rfl ?_
  refine z_bipush (r := 24) dX1_init_13 (by decide) ?_
  refine z_newA (at0 := .int) (ty := .int) (kd := 20) (N := 24) rfl zac_int (Or.inl ⟨rfl, rfl⟩) (by decide) (by decide) (by decide) (by decide +kernel) (by decide +kernel) (by decide +kernel) dX1_init_15 ?_
  refine z_tT (X := TT64) rfl ?_
  refine z_tS (X := SS35) rfl ?_
  refine z_tr (b := 33) (by decide +kernel) ?_
  refine z_putR zfX1_15 (Or.inr ⟨_, rfl⟩) (fun _ => rfl) ⟨by decide +kernel, by decide +kernel⟩ dX1_init_17 ?_
  refine z_tT (X := TT65) rfl ?_
  refine z_aload_n dX1_init_20 rfl ?_
  refine z_bipush (r := 24) dX1_init_21 (by decide) ?_
  refine z_newA (at0 := .int) (ty := .int) (kd := 20) (N := 24) rfl zac_int (Or.inl ⟨rfl, rfl⟩) (by decide) (by decide) (by decide) (by decide +kernel) (by decide +kernel) (by decide +kernel) dX1_init_23 ?_
  refine z_tT (X := TT66) rfl ?_
  refine z_tS (X := SS36) rfl ?_
  refine z_tr (b := 34) (by decide +kernel) ?_
  refine z_putR zfX1_18 (Or.inr ⟨_, rfl⟩) (fun _ => rfl) ⟨by decide +kernel, by decide +kernel⟩ dX1_init_25 ?_
  refine z_tT (X := TT67) rfl ?_
  exact z_vret rfl dX1_init_28
def TT68 : zT := zQ TT67 24 12 31
def TT69 : zT := zNT TT68 1 0 4
noncomputable def SS37 : zS := zNS TT68 SS36
def TT70 : zT := zNT TT69 20 24 24
noncomputable def SS38 : zS := zNS TT69 SS37
def TT71 : zT := zQ TT70 35 0 36
def TT72 : zT := zNT TT71 20 24 24
noncomputable def SS39 : zS := zNS TT71 SS38
def TT73 : zT := zQ TT72 35 1 37
def TT74 : zT := zNT TT73 20 24 24
noncomputable def SS40 : zS := zNS TT73 SS39
def TT75 : zT := zQ TT74 35 2 38
set_option maxHeartbeats 4000000 in
set_option maxRecDepth 100000 in
theorem ck8 : zGM 1 mX1_init [.ref 35] TT69 SS37 none TT75 SS40 := by
  refine zGM_of zpnX1 rfl (Nat.le_of_ble_eq_true rfl) (fun g => ?_)
  show zg g 1 mX1_init TT69 0 [some (.ref 35)] [] TT69 SS37 none TT75 SS40
  refine z_aload_n dX1_init_0 rfl ?_
  refine z_objInit (by decide) zoX1_3 zoi_inst zoi_code (by decide) (Nat.le_of_ble_eq_true rfl) dX1_init_1 ?_
  refine z_aload_n dX1_init_4 rfl ?_
  refine z_bipush (r := 24) dX1_init_5 (by decide) ?_
  refine z_newA (at0 := .int) (ty := .int) (kd := 20) (N := 24) rfl zac_int (Or.inl ⟨rfl, rfl⟩) (by decide) (by decide) (by decide) (by decide +kernel) (by decide +kernel) (by decide +kernel) dX1_init_7 ?_
  refine z_tT (X := TT70) rfl ?_
  refine z_tS (X := SS38) rfl ?_
  refine z_tr (b := 36) (by decide +kernel) ?_
  refine z_putR zfX1_9 (Or.inr ⟨_, rfl⟩) (fun _ => rfl) ⟨by decide +kernel, by decide +kernel⟩ dX1_init_9 ?_
  refine z_tT (X := TT71) rfl ?_
  refine z_aload_n dX1_init_12 rfl ?_
  refine z_bipush (r := 24) dX1_init_13 (by decide) ?_
  refine z_newA (at0 := .int) (ty := .int) (kd := 20) (N := 24) rfl zac_int (Or.inl ⟨rfl, rfl⟩) (by decide) (by decide) (by decide) (by decide +kernel) (by decide +kernel) (by decide +kernel) dX1_init_15 ?_
  refine z_tT (X := TT72) rfl ?_
  refine z_tS (X := SS39) rfl ?_
  refine z_tr (b := 37) (by decide +kernel) ?_
  refine z_putR zfX1_15 (Or.inr ⟨_, rfl⟩) (fun _ => rfl) ⟨by decide +kernel, by decide +kernel⟩ dX1_init_17 ?_
  refine z_tT (X := TT73) rfl ?_
  refine z_aload_n dX1_init_20 rfl ?_
  refine z_bipush (r := 24) dX1_init_21 (by decide) ?_
  refine z_newA (at0 := .int) (ty := .int) (kd := 20) (N := 24) rfl zac_int (Or.inl ⟨rfl, rfl⟩) (by decide) (by decide) (by decide) (by decide +kernel) (by decide +kernel) (by decide +kernel) dX1_init_23 ?_
  refine z_tT (X := TT74) rfl ?_
  refine z_tS (X := SS40) rfl ?_
  refine z_tr (b := 38) (by decide +kernel) ?_
  refine z_putR zfX1_18 (Or.inr ⟨_, rfl⟩) (fun _ => rfl) ⟨by decide +kernel, by decide +kernel⟩ dX1_init_25 ?_
  refine z_tT (X := TT75) rfl ?_
  exact z_vret rfl dX1_init_28
def TT76 : zT := zQ TT75 24 13 35
def TT77 : zT := zNT TT76 2 0 3
noncomputable def SS41 : zS := zNS TT76 SS40
def TT78 : zT := zNT TT77 20 512 512
noncomputable def SS42 : zS := zNS TT77 SS41
def TT79 : zT := zQ TT78 39 0 40
set_option maxHeartbeats 4000000 in
set_option maxRecDepth 100000 in
theorem ck9 : zGM 1 mX2_init [.ref 39] TT77 SS41 none TT79 SS42 := by
  refine zGM_of zpnX2 rfl (Nat.le_of_ble_eq_true rfl) (fun g => ?_)
  show zg g 1 mX2_init TT77 0 [some (.ref 39)] [] TT77 SS41 none TT79 SS42
  refine z_aload_n dX2_init_0 rfl ?_
  refine z_objInit (by decide) zoX2_3 zoi_inst zoi_code (by decide) (Nat.le_of_ble_eq_true rfl) dX2_init_1 ?_
  refine z_aload_n dX2_init_4 rfl ?_
  refine z_sipush (r := 512) dX2_init_5 (by decide) ?_
  refine z_newA (at0 := .int) (ty := .int) (kd := 20) (N := 512) rfl zac_int (Or.inl ⟨rfl, rfl⟩) (by decide) (by decide) (by decide) (by decide +kernel) (by decide +kernel) (by decide +kernel) dX2_init_8 ?_
  refine z_tT (X := TT78) rfl ?_
  refine z_tS (X := SS42) rfl ?_
  refine z_tr (b := 40) (by decide +kernel) ?_
  refine z_putR zfX2_9 (Or.inr ⟨_, rfl⟩) (fun _ => rfl) ⟨by decide +kernel, by decide +kernel⟩ dX2_init_10 ?_
  refine z_tT (X := TT79) rfl ?_
  exact z_vret rfl dX2_init_13
def TT80 : zT := zQ TT79 24 14 39
theorem fx10 : iX0 TT80 24 := ⟨⟨by decide +kernel, by decide +kernel⟩, ⟨by decide +kernel, by decide +kernel, by decide +kernel⟩, ⟨by decide +kernel, by decide +kernel, by decide +kernel⟩, ⟨by decide +kernel, by decide +kernel, by decide +kernel⟩, ⟨by decide +kernel, by decide +kernel, by decide +kernel⟩, ⟨by decide +kernel, by decide +kernel, by decide +kernel⟩, ⟨by decide +kernel, by decide +kernel, by decide +kernel⟩, ⟨⟨by decide +kernel, by decide +kernel⟩, ⟨by decide +kernel, by decide +kernel, by decide +kernel⟩, ⟨by decide +kernel, by decide +kernel, by decide +kernel⟩, ⟨by decide +kernel, by decide +kernel, by decide +kernel⟩⟩, ⟨⟨by decide +kernel, by decide +kernel⟩, ⟨by decide +kernel, by decide +kernel, by decide +kernel⟩, ⟨by decide +kernel, by decide +kernel, by decide +kernel⟩, ⟨by decide +kernel, by decide +kernel, by decide +kernel⟩⟩, ⟨⟨by decide +kernel, by decide +kernel⟩, ⟨by decide +kernel, by decide +kernel, by decide +kernel⟩⟩⟩
noncomputable def SS43 : zS := (match fX0_clear TT80 24 SS42 with | some r => r.2 | none => SS42)
set_option maxHeartbeats 4000000 in
set_option maxRecDepth 100000 in
theorem ck11 : zGM 2 mX0_init [.ref 24] TT48 SS26 none TT80 SS43 := by
  refine zGM_of zpnX0 rfl (Nat.le_of_ble_eq_true rfl) (fun g => ?_)
  show zg g 2 mX0_init TT48 0 [some (.ref 24)] [] TT48 SS26 none TT80 SS43
  refine z_aload_n dX0_init_0 rfl ?_
  refine z_objInit (by decide) zoX0_3 zoi_inst zoi_code (by decide) (Nat.le_of_ble_eq_true rfl) dX0_init_1 ?_
  refine z_aload_n dX0_init_4 rfl ?_
  refine z_bipush (r := 8) dX0_init_5 (by decide) ?_
  refine z_newA (at0 := .int) (ty := .int) (kd := 20) (N := 8) rfl zac_int (Or.inl ⟨rfl, rfl⟩) (by decide) (by decide) (by decide) (by decide +kernel) (by decide +kernel) (by decide +kernel) dX0_init_7 ?_
  refine z_tT (X := TT49) rfl ?_
  refine z_tS (X := SS27) rfl ?_
  refine z_tr (b := 25) (by decide +kernel) ?_
  refine z_putR zfX0_9 (Or.inr ⟨_, rfl⟩) (fun _ => rfl) ⟨by decide +kernel, by decide +kernel⟩ dX0_init_9 ?_
  refine z_tT (X := TT50) rfl ?_
  refine z_aload_n dX0_init_12 rfl ?_
  refine z_bipush (r := 8) dX0_init_13 (by decide) ?_
  refine z_newA (at0 := .int) (ty := .int) (kd := 20) (N := 8) rfl zac_int (Or.inl ⟨rfl, rfl⟩) (by decide) (by decide) (by decide) (by decide +kernel) (by decide +kernel) (by decide +kernel) dX0_init_15 ?_
  refine z_tT (X := TT51) rfl ?_
  refine z_tS (X := SS28) rfl ?_
  refine z_tr (b := 26) (by decide +kernel) ?_
  refine z_putR zfX0_15 (Or.inr ⟨_, rfl⟩) (fun _ => rfl) ⟨by decide +kernel, by decide +kernel⟩ dX0_init_17 ?_
  refine z_tT (X := TT52) rfl ?_
  refine z_aload_n dX0_init_20 rfl ?_
  refine z_bipush (r := 8) dX0_init_21 (by decide) ?_
  refine z_newA (at0 := .int) (ty := .int) (kd := 20) (N := 8) rfl zac_int (Or.inl ⟨rfl, rfl⟩) (by decide) (by decide) (by decide) (by decide +kernel) (by decide +kernel) (by decide +kernel) dX0_init_23 ?_
  refine z_tT (X := TT53) rfl ?_
  refine z_tS (X := SS29) rfl ?_
  refine z_tr (b := 27) (by decide +kernel) ?_
  refine z_putR zfX0_18 (Or.inr ⟨_, rfl⟩) (fun _ => rfl) ⟨by decide +kernel, by decide +kernel⟩ dX0_init_25 ?_
  refine z_tT (X := TT54) rfl ?_
  refine z_aload_n dX0_init_28 rfl ?_
  refine z_bipush (r := 8) dX0_init_29 (by decide) ?_
  refine z_newA (at0 := .int) (ty := .int) (kd := 20) (N := 8) rfl zac_int (Or.inl ⟨rfl, rfl⟩) (by decide) (by decide) (by decide) (by decide +kernel) (by decide +kernel) (by decide +kernel) dX0_init_31 ?_
  refine z_tT (X := TT55) rfl ?_
  refine z_tS (X := SS30) rfl ?_
  refine z_tr (b := 28) (by decide +kernel) ?_
  refine z_putR zfX0_21 (Or.inr ⟨_, rfl⟩) (fun _ => rfl) ⟨by decide +kernel, by decide +kernel⟩ dX0_init_33 ?_
  refine z_tT (X := TT56) rfl ?_
  refine z_aload_n dX0_init_36 rfl ?_
  refine z_bipush (r := 8) dX0_init_37 (by decide) ?_
  refine z_newA (at0 := .int) (ty := .int) (kd := 20) (N := 8) rfl zac_int (Or.inl ⟨rfl, rfl⟩) (by decide) (by decide) (by decide) (by decide +kernel) (by decide +kernel) (by decide +kernel) dX0_init_39 ?_
  refine z_tT (X := TT57) rfl ?_
  refine z_tS (X := SS31) rfl ?_
  refine z_tr (b := 29) (by decide +kernel) ?_
  refine z_putR zfX0_24 (Or.inr ⟨_, rfl⟩) (fun _ => rfl) ⟨by decide +kernel, by decide +kernel⟩ dX0_init_41 ?_
  refine z_tT (X := TT58) rfl ?_
  refine z_aload_n dX0_init_44 rfl ?_
  refine z_bipush (r := 8) dX0_init_45 (by decide) ?_
  refine z_newA (at0 := .int) (ty := .int) (kd := 20) (N := 8) rfl zac_int (Or.inl ⟨rfl, rfl⟩) (by decide) (by decide) (by decide) (by decide +kernel) (by decide +kernel) (by decide +kernel) dX0_init_47 ?_
  refine z_tT (X := TT59) rfl ?_
  refine z_tS (X := SS32) rfl ?_
  refine z_tr (b := 30) (by decide +kernel) ?_
  refine z_putR zfX0_27 (Or.inr ⟨_, rfl⟩) (fun _ => rfl) ⟨by decide +kernel, by decide +kernel⟩ dX0_init_49 ?_
  refine z_tT (X := TT60) rfl ?_
  refine z_aload_n dX0_init_52 rfl ?_
  refine z_new zcX1 zdfX1 zwX0_30 zvX1 zjX1 (by decide +kernel) (by decide +kernel) (by decide +kernel) dX0_init_53 ?_
  refine z_tT (X := TT61) rfl ?_
  refine z_tS (X := SS33) rfl ?_
  refine z_tr (b := 31) (by decide +kernel) ?_
  refine z_dup dX0_init_56 rfl ?_
  refine z_callI (ci := 1) (As := []) rfl rfl zkX0_32 ziX1_init ⟨by decide +kernel, by decide +kernel⟩ ck7 rfl rfl (Nat.le_of_ble_eq_true rfl) (by decide) ⟨(by decide +kernel), (by decide +kernel)⟩ ⟨(by decide +kernel), (by decide +kernel)⟩ dX0_init_57 ?_
  refine z_putR zfX0_33 (Or.inl ⟨_, rfl⟩) (fun _ => rfl) ⟨by decide +kernel, by decide +kernel⟩ dX0_init_60 ?_
  refine z_tT (X := TT68) rfl ?_
  refine z_aload_n dX0_init_63 rfl ?_
  refine z_new zcX1 zdfX1 zwX0_30 zvX1 zjX1 (by decide +kernel) (by decide +kernel) (by decide +kernel) dX0_init_64 ?_
  refine z_tT (X := TT69) rfl ?_
  refine z_tS (X := SS37) rfl ?_
  refine z_tr (b := 35) (by decide +kernel) ?_
  refine z_dup dX0_init_67 rfl ?_
  refine z_callI (ci := 1) (As := []) rfl rfl zkX0_32 ziX1_init ⟨by decide +kernel, by decide +kernel⟩ ck8 rfl rfl (Nat.le_of_ble_eq_true rfl) (by decide) ⟨(by decide +kernel), (by decide +kernel)⟩ ⟨(by decide +kernel), (by decide +kernel)⟩ dX0_init_68 ?_
  refine z_putR zfX0_37 (Or.inl ⟨_, rfl⟩) (fun _ => rfl) ⟨by decide +kernel, by decide +kernel⟩ dX0_init_71 ?_
  refine z_tT (X := TT76) rfl ?_
  refine z_aload_n dX0_init_74 rfl ?_
  refine z_new zcX2 zdfX2 zwX0_40 zvX2 zjX2 (by decide +kernel) (by decide +kernel) (by decide +kernel) dX0_init_75 ?_
  refine z_tT (X := TT77) rfl ?_
  refine z_tS (X := SS41) rfl ?_
  refine z_tr (b := 39) (by decide +kernel) ?_
  refine z_dup dX0_init_78 rfl ?_
  refine z_callI (ci := 2) (As := []) rfl rfl zkX0_42 ziX2_init ⟨by decide +kernel, by decide +kernel⟩ ck9 rfl rfl (Nat.le_of_ble_eq_true rfl) (by decide) ⟨(by decide +kernel), (by decide +kernel)⟩ ⟨(by decide +kernel), (by decide +kernel)⟩ dX0_init_79 ?_
  refine z_putR zfX0_43 (Or.inl ⟨_, rfl⟩) (fun _ => rfl) ⟨by decide +kernel, by decide +kernel⟩ dX0_init_82 ?_
  refine z_tT (X := TT80) rfl ?_
  refine z_aload_n dX0_init_85 rfl ?_
  refine z_callV (As := []) zcX0 zkX0_47 ziX0_clear zqX0_clear ⟨by decide +kernel, by decide +kernel⟩ (tX0_clear TT80 24 SS42 fx10 ((), SS43) rfl) rfl rfl (Nat.le_of_ble_eq_true rfl) (by decide) ⟨Nat.le_refl _, Nat.le_refl _⟩ ⟨(by decide +kernel), (by decide +kernel)⟩ dX0_init_86 ?_
  exact z_vret rfl dX0_init_89
def TT81 : zT := zQ TT80 0 4 24
def TT82 : zT := zNT TT81 7 0 4
noncomputable def SS44 : zS := zNS TT81 SS43
def TT83 : zT := zNT TT82 20 60 60
noncomputable def SS45 : zS := zNS TT82 SS44
def TT84 : zT := zQ TT83 41 0 42
def TT85 : zT := zNT TT84 20 60 60
noncomputable def SS46 : zS := zNS TT84 SS45
def TT86 : zT := zQ TT85 41 1 43
def TT87 : zT := zNT TT86 20 60 60
noncomputable def SS47 : zS := zNS TT86 SS46
def TT88 : zT := zQ TT87 41 2 44
set_option maxHeartbeats 4000000 in
set_option maxRecDepth 100000 in
theorem ck12 : zGM 1 mX7_init [.ref 41] TT82 SS44 none TT88 SS47 := by
  refine zGM_of zpnX7 rfl (Nat.le_of_ble_eq_true rfl) (fun g => ?_)
  show zg g 1 mX7_init TT82 0 [some (.ref 41)] [] TT82 SS44 none TT88 SS47
  refine z_aload_n dX7_init_0 rfl ?_
  refine z_objInit (by decide) zoX7_3 zoi_inst zoi_code (by decide) (Nat.le_of_ble_eq_true rfl) dX7_init_1 ?_
  refine z_aload_n dX7_init_4 rfl ?_
  refine z_bipush (r := 60) dX7_init_5 (by decide) ?_
  refine z_newA (at0 := .int) (ty := .int) (kd := 20) (N := 60) rfl zac_int (Or.inl ⟨rfl, rfl⟩) (by decide) (by decide) (by decide) (by decide +kernel) (by decide +kernel) (by decide +kernel) dX7_init_7 ?_
  refine z_tT (X := TT83) rfl ?_
  refine z_tS (X := SS45) rfl ?_
  refine z_tr (b := 42) (by decide +kernel) ?_
  refine z_putR zfX7_9 (Or.inr ⟨_, rfl⟩) (fun _ => rfl) ⟨by decide +kernel, by decide +kernel⟩ dX7_init_9 ?_
  refine z_tT (X := TT84) rfl ?_
  refine z_aload_n dX7_init_12 rfl ?_
  refine z_bipush (r := 60) dX7_init_13 (by decide) ?_
  refine z_newA (at0 := .int) (ty := .int) (kd := 20) (N := 60) rfl zac_int (Or.inl ⟨rfl, rfl⟩) (by decide) (by decide) (by decide) (by decide +kernel) (by decide +kernel) (by decide +kernel) dX7_init_15 ?_
  refine z_tT (X := TT85) rfl ?_
  refine z_tS (X := SS46) rfl ?_
  refine z_tr (b := 43) (by decide +kernel) ?_
  refine z_putR zfX7_15 (Or.inr ⟨_, rfl⟩) (fun _ => rfl) ⟨by decide +kernel, by decide +kernel⟩ dX7_init_17 ?_
  refine z_tT (X := TT86) rfl ?_
  refine z_aload_n dX7_init_20 rfl ?_
  refine z_bipush (r := 60) dX7_init_21 (by decide) ?_
  refine z_newA (at0 := .int) (ty := .int) (kd := 20) (N := 60) rfl zac_int (Or.inl ⟨rfl, rfl⟩) (by decide) (by decide) (by decide) (by decide +kernel) (by decide +kernel) (by decide +kernel) dX7_init_23 ?_
  refine z_tT (X := TT87) rfl ?_
  refine z_tS (X := SS47) rfl ?_
  refine z_tr (b := 44) (by decide +kernel) ?_
  refine z_putR zfX7_18 (Or.inr ⟨_, rfl⟩) (fun _ => rfl) ⟨by decide +kernel, by decide +kernel⟩ dX7_init_25 ?_
  refine z_tT (X := TT88) rfl ?_
  exact z_vret rfl dX7_init_28
def TT89 : zT := zQ TT88 0 5 41
def TT90 : zT := zNT TT89 24 6 6
noncomputable def SS48 : zS := zNS TT89 SS47
def TT91 : zT := zQ TT90 0 6 45
def TT92 : zT := zNT TT91 8 0 5
noncomputable def SS49 : zS := zNS TT91 SS48
def TT93 : zT := zNT TT92 20 12 12
noncomputable def SS50 : zS := zNS TT92 SS49
def TT94 : zT := zQ TT93 46 0 47
def TT95 : zT := zNT TT94 20 12 12
noncomputable def SS51 : zS := zNS TT94 SS50
def TT96 : zT := zQ TT95 46 1 48
def TT97 : zT := zNT TT96 2 0 3
noncomputable def SS52 : zS := zNS TT96 SS51
def TT98 : zT := zNT TT97 20 512 512
noncomputable def SS53 : zS := zNS TT97 SS52
def TT99 : zT := zQ TT98 49 0 50
set_option maxHeartbeats 4000000 in
set_option maxRecDepth 100000 in
theorem ck13 : zGM 1 mX2_init [.ref 49] TT97 SS52 none TT99 SS53 := by
  refine zGM_of zpnX2 rfl (Nat.le_of_ble_eq_true rfl) (fun g => ?_)
  show zg g 1 mX2_init TT97 0 [some (.ref 49)] [] TT97 SS52 none TT99 SS53
  refine z_aload_n dX2_init_0 rfl ?_
  refine z_objInit (by decide) zoX2_3 zoi_inst zoi_code (by decide) (Nat.le_of_ble_eq_true rfl) dX2_init_1 ?_
  refine z_aload_n dX2_init_4 rfl ?_
  refine z_sipush (r := 512) dX2_init_5 (by decide) ?_
  refine z_newA (at0 := .int) (ty := .int) (kd := 20) (N := 512) rfl zac_int (Or.inl ⟨rfl, rfl⟩) (by decide) (by decide) (by decide) (by decide +kernel) (by decide +kernel) (by decide +kernel) dX2_init_8 ?_
  refine z_tT (X := TT98) rfl ?_
  refine z_tS (X := SS53) rfl ?_
  refine z_tr (b := 50) (by decide +kernel) ?_
  refine z_putR zfX2_9 (Or.inr ⟨_, rfl⟩) (fun _ => rfl) ⟨by decide +kernel, by decide +kernel⟩ dX2_init_10 ?_
  refine z_tT (X := TT99) rfl ?_
  exact z_vret rfl dX2_init_13
def TT100 : zT := zQ TT99 46 4 49
set_option maxHeartbeats 4000000 in
set_option maxRecDepth 100000 in
theorem ck14 : zGM 2 mX8_init [.ref 46] TT92 SS49 none TT100 SS53 := by
  refine zGM_of zpnX8 rfl (Nat.le_of_ble_eq_true rfl) (fun g => ?_)
  show zg g 2 mX8_init TT92 0 [some (.ref 46)] [] TT92 SS49 none TT100 SS53
  refine z_aload_n dX8_init_0 rfl ?_
  refine z_objInit (by decide) zoX8_3 zoi_inst zoi_code (by decide) (Nat.le_of_ble_eq_true rfl) dX8_init_1 ?_
  refine z_aload_n dX8_init_4 rfl ?_
  refine z_bipush (r := 12) dX8_init_5 (by decide) ?_
  refine z_newA (at0 := .int) (ty := .int) (kd := 20) (N := 12) rfl zac_int (Or.inl ⟨rfl, rfl⟩) (by decide) (by decide) (by decide) (by decide +kernel) (by decide +kernel) (by decide +kernel) dX8_init_7 ?_
  refine z_tT (X := TT93) rfl ?_
  refine z_tS (X := SS50) rfl ?_
  refine z_tr (b := 47) (by decide +kernel) ?_
  refine z_putR zfX8_9 (Or.inr ⟨_, rfl⟩) (fun _ => rfl) ⟨by decide +kernel, by decide +kernel⟩ dX8_init_9 ?_
  refine z_tT (X := TT94) rfl ?_
  refine z_aload_n dX8_init_12 rfl ?_
  refine z_bipush (r := 12) dX8_init_13 (by decide) ?_
  refine z_newA (at0 := .int) (ty := .int) (kd := 20) (N := 12) rfl zac_int (Or.inl ⟨rfl, rfl⟩) (by decide) (by decide) (by decide) (by decide +kernel) (by decide +kernel) (by decide +kernel) dX8_init_15 ?_
  refine z_tT (X := TT95) rfl ?_
  refine z_tS (X := SS51) rfl ?_
  refine z_tr (b := 48) (by decide +kernel) ?_
  refine z_putR zfX8_15 (Or.inr ⟨_, rfl⟩) (fun _ => rfl) ⟨by decide +kernel, by decide +kernel⟩ dX8_init_17 ?_
  refine z_tT (X := TT96) rfl ?_
  refine z_aload_n dX8_init_20 rfl ?_
  refine z_new zcX2 zdfX2 zwX8_18 zvX2 zjX2 (by decide +kernel) (by decide +kernel) (by decide +kernel) dX8_init_21 ?_
  refine z_tT (X := TT97) rfl ?_
  refine z_tS (X := SS52) rfl ?_
  refine z_tr (b := 49) (by decide +kernel) ?_
  refine z_dup dX8_init_24 rfl ?_
  refine z_callI (ci := 2) (As := []) rfl rfl zkX8_20 ziX2_init ⟨by decide +kernel, by decide +kernel⟩ ck13 rfl rfl (Nat.le_of_ble_eq_true rfl) (by decide) ⟨(by decide +kernel), (by decide +kernel)⟩ ⟨(by decide +kernel), (by decide +kernel)⟩ dX8_init_25 ?_
  refine z_putR zfX8_21 (Or.inl ⟨_, rfl⟩) (fun _ => rfl) ⟨by decide +kernel, by decide +kernel⟩ dX8_init_28 ?_
  refine z_tT (X := TT100) rfl ?_
  exact z_vret rfl dX8_init_31
def TT101 : zT := zQ TT100 45 0 46
def TT102 : zT := zNT TT101 8 0 5
noncomputable def SS54 : zS := zNS TT101 SS53
def TT103 : zT := zNT TT102 20 12 12
noncomputable def SS55 : zS := zNS TT102 SS54
def TT104 : zT := zQ TT103 51 0 52
def TT105 : zT := zNT TT104 20 12 12
noncomputable def SS56 : zS := zNS TT104 SS55
def TT106 : zT := zQ TT105 51 1 53
def TT107 : zT := zNT TT106 2 0 3
noncomputable def SS57 : zS := zNS TT106 SS56
def TT108 : zT := zNT TT107 20 512 512
noncomputable def SS58 : zS := zNS TT107 SS57
def TT109 : zT := zQ TT108 54 0 55
set_option maxHeartbeats 4000000 in
set_option maxRecDepth 100000 in
theorem ck15 : zGM 1 mX2_init [.ref 54] TT107 SS57 none TT109 SS58 := by
  refine zGM_of zpnX2 rfl (Nat.le_of_ble_eq_true rfl) (fun g => ?_)
  show zg g 1 mX2_init TT107 0 [some (.ref 54)] [] TT107 SS57 none TT109 SS58
  refine z_aload_n dX2_init_0 rfl ?_
  refine z_objInit (by decide) zoX2_3 zoi_inst zoi_code (by decide) (Nat.le_of_ble_eq_true rfl) dX2_init_1 ?_
  refine z_aload_n dX2_init_4 rfl ?_
  refine z_sipush (r := 512) dX2_init_5 (by decide) ?_
  refine z_newA (at0 := .int) (ty := .int) (kd := 20) (N := 512) rfl zac_int (Or.inl ⟨rfl, rfl⟩) (by decide) (by decide) (by decide) (by decide +kernel) (by decide +kernel) (by decide +kernel) dX2_init_8 ?_
  refine z_tT (X := TT108) rfl ?_
  refine z_tS (X := SS58) rfl ?_
  refine z_tr (b := 55) (by decide +kernel) ?_
  refine z_putR zfX2_9 (Or.inr ⟨_, rfl⟩) (fun _ => rfl) ⟨by decide +kernel, by decide +kernel⟩ dX2_init_10 ?_
  refine z_tT (X := TT109) rfl ?_
  exact z_vret rfl dX2_init_13
def TT110 : zT := zQ TT109 51 4 54
set_option maxHeartbeats 4000000 in
set_option maxRecDepth 100000 in
theorem ck16 : zGM 2 mX8_init [.ref 51] TT102 SS54 none TT110 SS58 := by
  refine zGM_of zpnX8 rfl (Nat.le_of_ble_eq_true rfl) (fun g => ?_)
  show zg g 2 mX8_init TT102 0 [some (.ref 51)] [] TT102 SS54 none TT110 SS58
  refine z_aload_n dX8_init_0 rfl ?_
  refine z_objInit (by decide) zoX8_3 zoi_inst zoi_code (by decide) (Nat.le_of_ble_eq_true rfl) dX8_init_1 ?_
  refine z_aload_n dX8_init_4 rfl ?_
  refine z_bipush (r := 12) dX8_init_5 (by decide) ?_
  refine z_newA (at0 := .int) (ty := .int) (kd := 20) (N := 12) rfl zac_int (Or.inl ⟨rfl, rfl⟩) (by decide) (by decide) (by decide) (by decide +kernel) (by decide +kernel) (by decide +kernel) dX8_init_7 ?_
  refine z_tT (X := TT103) rfl ?_
  refine z_tS (X := SS55) rfl ?_
  refine z_tr (b := 52) (by decide +kernel) ?_
  refine z_putR zfX8_9 (Or.inr ⟨_, rfl⟩) (fun _ => rfl) ⟨by decide +kernel, by decide +kernel⟩ dX8_init_9 ?_
  refine z_tT (X := TT104) rfl ?_
  refine z_aload_n dX8_init_12 rfl ?_
  refine z_bipush (r := 12) dX8_init_13 (by decide) ?_
  refine z_newA (at0 := .int) (ty := .int) (kd := 20) (N := 12) rfl zac_int (Or.inl ⟨rfl, rfl⟩) (by decide) (by decide) (by decide) (by decide +kernel) (by decide +kernel) (by decide +kernel) dX8_init_15 ?_
  refine z_tT (X := TT105) rfl ?_
  refine z_tS (X := SS56) rfl ?_
  refine z_tr (b := 53) (by decide +kernel) ?_
  refine z_putR zfX8_15 (Or.inr ⟨_, rfl⟩) (fun _ => rfl) ⟨by decide +kernel, by decide +kernel⟩ dX8_init_17 ?_
  refine z_tT (X := TT106) rfl ?_
  refine z_aload_n dX8_init_20 rfl ?_
  refine z_new zcX2 zdfX2 zwX8_18 zvX2 zjX2 (by decide +kernel) (by decide +kernel) (by decide +kernel) dX8_init_21 ?_
  refine z_tT (X := TT107) rfl ?_
  refine z_tS (X := SS57) rfl ?_
  refine z_tr (b := 54) (by decide +kernel) ?_
  refine z_dup dX8_init_24 rfl ?_
  refine z_callI (ci := 2) (As := []) rfl rfl zkX8_20 ziX2_init ⟨by decide +kernel, by decide +kernel⟩ ck15 rfl rfl (Nat.le_of_ble_eq_true rfl) (by decide) ⟨(by decide +kernel), (by decide +kernel)⟩ ⟨(by decide +kernel), (by decide +kernel)⟩ dX8_init_25 ?_
  refine z_putR zfX8_21 (Or.inl ⟨_, rfl⟩) (fun _ => rfl) ⟨by decide +kernel, by decide +kernel⟩ dX8_init_28 ?_
  refine z_tT (X := TT110) rfl ?_
  exact z_vret rfl dX8_init_31
def TT111 : zT := zQ TT110 45 1 51
def TT112 : zT := zNT TT111 8 0 5
noncomputable def SS59 : zS := zNS TT111 SS58
def TT113 : zT := zNT TT112 20 12 12
noncomputable def SS60 : zS := zNS TT112 SS59
def TT114 : zT := zQ TT113 56 0 57
def TT115 : zT := zNT TT114 20 12 12
noncomputable def SS61 : zS := zNS TT114 SS60
def TT116 : zT := zQ TT115 56 1 58
def TT117 : zT := zNT TT116 2 0 3
noncomputable def SS62 : zS := zNS TT116 SS61
def TT118 : zT := zNT TT117 20 512 512
noncomputable def SS63 : zS := zNS TT117 SS62
def TT119 : zT := zQ TT118 59 0 60
set_option maxHeartbeats 4000000 in
set_option maxRecDepth 100000 in
theorem ck17 : zGM 1 mX2_init [.ref 59] TT117 SS62 none TT119 SS63 := by
  refine zGM_of zpnX2 rfl (Nat.le_of_ble_eq_true rfl) (fun g => ?_)
  show zg g 1 mX2_init TT117 0 [some (.ref 59)] [] TT117 SS62 none TT119 SS63
  refine z_aload_n dX2_init_0 rfl ?_
  refine z_objInit (by decide) zoX2_3 zoi_inst zoi_code (by decide) (Nat.le_of_ble_eq_true rfl) dX2_init_1 ?_
  refine z_aload_n dX2_init_4 rfl ?_
  refine z_sipush (r := 512) dX2_init_5 (by decide) ?_
  refine z_newA (at0 := .int) (ty := .int) (kd := 20) (N := 512) rfl zac_int (Or.inl ⟨rfl, rfl⟩) (by decide) (by decide) (by decide) (by decide +kernel) (by decide +kernel) (by decide +kernel) dX2_init_8 ?_
  refine z_tT (X := TT118) rfl ?_
  refine z_tS (X := SS63) rfl ?_
  refine z_tr (b := 60) (by decide +kernel) ?_
  refine z_putR zfX2_9 (Or.inr ⟨_, rfl⟩) (fun _ => rfl) ⟨by decide +kernel, by decide +kernel⟩ dX2_init_10 ?_
  refine z_tT (X := TT119) rfl ?_
  exact z_vret rfl dX2_init_13
def TT120 : zT := zQ TT119 56 4 59
set_option maxHeartbeats 4000000 in
set_option maxRecDepth 100000 in
theorem ck18 : zGM 2 mX8_init [.ref 56] TT112 SS59 none TT120 SS63 := by
  refine zGM_of zpnX8 rfl (Nat.le_of_ble_eq_true rfl) (fun g => ?_)
  show zg g 2 mX8_init TT112 0 [some (.ref 56)] [] TT112 SS59 none TT120 SS63
  refine z_aload_n dX8_init_0 rfl ?_
  refine z_objInit (by decide) zoX8_3 zoi_inst zoi_code (by decide) (Nat.le_of_ble_eq_true rfl) dX8_init_1 ?_
  refine z_aload_n dX8_init_4 rfl ?_
  refine z_bipush (r := 12) dX8_init_5 (by decide) ?_
  refine z_newA (at0 := .int) (ty := .int) (kd := 20) (N := 12) rfl zac_int (Or.inl ⟨rfl, rfl⟩) (by decide) (by decide) (by decide) (by decide +kernel) (by decide +kernel) (by decide +kernel) dX8_init_7 ?_
  refine z_tT (X := TT113) rfl ?_
  refine z_tS (X := SS60) rfl ?_
  refine z_tr (b := 57) (by decide +kernel) ?_
  refine z_putR zfX8_9 (Or.inr ⟨_, rfl⟩) (fun _ => rfl) ⟨by decide +kernel, by decide +kernel⟩ dX8_init_9 ?_
  refine z_tT (X := TT114) rfl ?_
  refine z_aload_n dX8_init_12 rfl ?_
  refine z_bipush (r := 12) dX8_init_13 (by decide) ?_
  refine z_newA (at0 := .int) (ty := .int) (kd := 20) (N := 12) rfl zac_int (Or.inl ⟨rfl, rfl⟩) (by decide) (by decide) (by decide) (by decide +kernel) (by decide +kernel) (by decide +kernel) dX8_init_15 ?_
  refine z_tT (X := TT115) rfl ?_
  refine z_tS (X := SS61) rfl ?_
  refine z_tr (b := 58) (by decide +kernel) ?_
  refine z_putR zfX8_15 (Or.inr ⟨_, rfl⟩) (fun _ => rfl) ⟨by decide +kernel, by decide +kernel⟩ dX8_init_17 ?_
  refine z_tT (X := TT116) rfl ?_
  refine z_aload_n dX8_init_20 rfl ?_
  refine z_new zcX2 zdfX2 zwX8_18 zvX2 zjX2 (by decide +kernel) (by decide +kernel) (by decide +kernel) dX8_init_21 ?_
  refine z_tT (X := TT117) rfl ?_
  refine z_tS (X := SS62) rfl ?_
  refine z_tr (b := 59) (by decide +kernel) ?_
  refine z_dup dX8_init_24 rfl ?_
  refine z_callI (ci := 2) (As := []) rfl rfl zkX8_20 ziX2_init ⟨by decide +kernel, by decide +kernel⟩ ck17 rfl rfl (Nat.le_of_ble_eq_true rfl) (by decide) ⟨(by decide +kernel), (by decide +kernel)⟩ ⟨(by decide +kernel), (by decide +kernel)⟩ dX8_init_25 ?_
  refine z_putR zfX8_21 (Or.inl ⟨_, rfl⟩) (fun _ => rfl) ⟨by decide +kernel, by decide +kernel⟩ dX8_init_28 ?_
  refine z_tT (X := TT120) rfl ?_
  exact z_vret rfl dX8_init_31
def TT121 : zT := zQ TT120 45 2 56
def TT122 : zT := zNT TT121 8 0 5
noncomputable def SS64 : zS := zNS TT121 SS63
def TT123 : zT := zNT TT122 20 12 12
noncomputable def SS65 : zS := zNS TT122 SS64
def TT124 : zT := zQ TT123 61 0 62
def TT125 : zT := zNT TT124 20 12 12
noncomputable def SS66 : zS := zNS TT124 SS65
def TT126 : zT := zQ TT125 61 1 63
def TT127 : zT := zNT TT126 2 0 3
noncomputable def SS67 : zS := zNS TT126 SS66
def TT128 : zT := zNT TT127 20 512 512
noncomputable def SS68 : zS := zNS TT127 SS67
def TT129 : zT := zQ TT128 64 0 65
set_option maxHeartbeats 4000000 in
set_option maxRecDepth 100000 in
theorem ck19 : zGM 1 mX2_init [.ref 64] TT127 SS67 none TT129 SS68 := by
  refine zGM_of zpnX2 rfl (Nat.le_of_ble_eq_true rfl) (fun g => ?_)
  show zg g 1 mX2_init TT127 0 [some (.ref 64)] [] TT127 SS67 none TT129 SS68
  refine z_aload_n dX2_init_0 rfl ?_
  refine z_objInit (by decide) zoX2_3 zoi_inst zoi_code (by decide) (Nat.le_of_ble_eq_true rfl) dX2_init_1 ?_
  refine z_aload_n dX2_init_4 rfl ?_
  refine z_sipush (r := 512) dX2_init_5 (by decide) ?_
  refine z_newA (at0 := .int) (ty := .int) (kd := 20) (N := 512) rfl zac_int (Or.inl ⟨rfl, rfl⟩) (by decide) (by decide) (by decide) (by decide +kernel) (by decide +kernel) (by decide +kernel) dX2_init_8 ?_
  refine z_tT (X := TT128) rfl ?_
  refine z_tS (X := SS68) rfl ?_
  refine z_tr (b := 65) (by decide +kernel) ?_
  refine z_putR zfX2_9 (Or.inr ⟨_, rfl⟩) (fun _ => rfl) ⟨by decide +kernel, by decide +kernel⟩ dX2_init_10 ?_
  refine z_tT (X := TT129) rfl ?_
  exact z_vret rfl dX2_init_13
def TT130 : zT := zQ TT129 61 4 64
set_option maxHeartbeats 4000000 in
set_option maxRecDepth 100000 in
theorem ck20 : zGM 2 mX8_init [.ref 61] TT122 SS64 none TT130 SS68 := by
  refine zGM_of zpnX8 rfl (Nat.le_of_ble_eq_true rfl) (fun g => ?_)
  show zg g 2 mX8_init TT122 0 [some (.ref 61)] [] TT122 SS64 none TT130 SS68
  refine z_aload_n dX8_init_0 rfl ?_
  refine z_objInit (by decide) zoX8_3 zoi_inst zoi_code (by decide) (Nat.le_of_ble_eq_true rfl) dX8_init_1 ?_
  refine z_aload_n dX8_init_4 rfl ?_
  refine z_bipush (r := 12) dX8_init_5 (by decide) ?_
  refine z_newA (at0 := .int) (ty := .int) (kd := 20) (N := 12) rfl zac_int (Or.inl ⟨rfl, rfl⟩) (by decide) (by decide) (by decide) (by decide +kernel) (by decide +kernel) (by decide +kernel) dX8_init_7 ?_
  refine z_tT (X := TT123) rfl ?_
  refine z_tS (X := SS65) rfl ?_
  refine z_tr (b := 62) (by decide +kernel) ?_
  refine z_putR zfX8_9 (Or.inr ⟨_, rfl⟩) (fun _ => rfl) ⟨by decide +kernel, by decide +kernel⟩ dX8_init_9 ?_
  refine z_tT (X := TT124) rfl ?_
  refine z_aload_n dX8_init_12 rfl ?_
  refine z_bipush (r := 12) dX8_init_13 (by decide) ?_
  refine z_newA (at0 := .int) (ty := .int) (kd := 20) (N := 12) rfl zac_int (Or.inl ⟨rfl, rfl⟩) (by decide) (by decide) (by decide) (by decide +kernel) (by decide +kernel) (by decide +kernel) dX8_init_15 ?_
  refine z_tT (X := TT125) rfl ?_
  refine z_tS (X := SS66) rfl ?_
  refine z_tr (b := 63) (by decide +kernel) ?_
  refine z_putR zfX8_15 (Or.inr ⟨_, rfl⟩) (fun _ => rfl) ⟨by decide +kernel, by decide +kernel⟩ dX8_init_17 ?_
  refine z_tT (X := TT126) rfl ?_
  refine z_aload_n dX8_init_20 rfl ?_
  refine z_new zcX2 zdfX2 zwX8_18 zvX2 zjX2 (by decide +kernel) (by decide +kernel) (by decide +kernel) dX8_init_21 ?_
  refine z_tT (X := TT127) rfl ?_
  refine z_tS (X := SS67) rfl ?_
  refine z_tr (b := 64) (by decide +kernel) ?_
  refine z_dup dX8_init_24 rfl ?_
  refine z_callI (ci := 2) (As := []) rfl rfl zkX8_20 ziX2_init ⟨by decide +kernel, by decide +kernel⟩ ck19 rfl rfl (Nat.le_of_ble_eq_true rfl) (by decide) ⟨(by decide +kernel), (by decide +kernel)⟩ ⟨(by decide +kernel), (by decide +kernel)⟩ dX8_init_25 ?_
  refine z_putR zfX8_21 (Or.inl ⟨_, rfl⟩) (fun _ => rfl) ⟨by decide +kernel, by decide +kernel⟩ dX8_init_28 ?_
  refine z_tT (X := TT130) rfl ?_
  exact z_vret rfl dX8_init_31
def TT131 : zT := zQ TT130 45 3 61
def TT132 : zT := zNT TT131 8 0 5
noncomputable def SS69 : zS := zNS TT131 SS68
def TT133 : zT := zNT TT132 20 12 12
noncomputable def SS70 : zS := zNS TT132 SS69
def TT134 : zT := zQ TT133 66 0 67
def TT135 : zT := zNT TT134 20 12 12
noncomputable def SS71 : zS := zNS TT134 SS70
def TT136 : zT := zQ TT135 66 1 68
def TT137 : zT := zNT TT136 2 0 3
noncomputable def SS72 : zS := zNS TT136 SS71
def TT138 : zT := zNT TT137 20 512 512
noncomputable def SS73 : zS := zNS TT137 SS72
def TT139 : zT := zQ TT138 69 0 70
set_option maxHeartbeats 4000000 in
set_option maxRecDepth 100000 in
theorem ck21 : zGM 1 mX2_init [.ref 69] TT137 SS72 none TT139 SS73 := by
  refine zGM_of zpnX2 rfl (Nat.le_of_ble_eq_true rfl) (fun g => ?_)
  show zg g 1 mX2_init TT137 0 [some (.ref 69)] [] TT137 SS72 none TT139 SS73
  refine z_aload_n dX2_init_0 rfl ?_
  refine z_objInit (by decide) zoX2_3 zoi_inst zoi_code (by decide) (Nat.le_of_ble_eq_true rfl) dX2_init_1 ?_
  refine z_aload_n dX2_init_4 rfl ?_
  refine z_sipush (r := 512) dX2_init_5 (by decide) ?_
  refine z_newA (at0 := .int) (ty := .int) (kd := 20) (N := 512) rfl zac_int (Or.inl ⟨rfl, rfl⟩) (by decide) (by decide) (by decide) (by decide +kernel) (by decide +kernel) (by decide +kernel) dX2_init_8 ?_
  refine z_tT (X := TT138) rfl ?_
  refine z_tS (X := SS73) rfl ?_
  refine z_tr (b := 70) (by decide +kernel) ?_
  refine z_putR zfX2_9 (Or.inr ⟨_, rfl⟩) (fun _ => rfl) ⟨by decide +kernel, by decide +kernel⟩ dX2_init_10 ?_
  refine z_tT (X := TT139) rfl ?_
  exact z_vret rfl dX2_init_13
def TT140 : zT := zQ TT139 66 4 69
set_option maxHeartbeats 4000000 in
set_option maxRecDepth 100000 in
theorem ck22 : zGM 2 mX8_init [.ref 66] TT132 SS69 none TT140 SS73 := by
  refine zGM_of zpnX8 rfl (Nat.le_of_ble_eq_true rfl) (fun g => ?_)
  show zg g 2 mX8_init TT132 0 [some (.ref 66)] [] TT132 SS69 none TT140 SS73
  refine z_aload_n dX8_init_0 rfl ?_
  refine z_objInit (by decide) zoX8_3 zoi_inst zoi_code (by decide) (Nat.le_of_ble_eq_true rfl) dX8_init_1 ?_
  refine z_aload_n dX8_init_4 rfl ?_
  refine z_bipush (r := 12) dX8_init_5 (by decide) ?_
  refine z_newA (at0 := .int) (ty := .int) (kd := 20) (N := 12) rfl zac_int (Or.inl ⟨rfl, rfl⟩) (by decide) (by decide) (by decide) (by decide +kernel) (by decide +kernel) (by decide +kernel) dX8_init_7 ?_
  refine z_tT (X := TT133) rfl ?_
  refine z_tS (X := SS70) rfl ?_
  refine z_tr (b := 67) (by decide +kernel) ?_
  refine z_putR zfX8_9 (Or.inr ⟨_, rfl⟩) (fun _ => rfl) ⟨by decide +kernel, by decide +kernel⟩ dX8_init_9 ?_
  refine z_tT (X := TT134) rfl ?_
  refine z_aload_n dX8_init_12 rfl ?_
  refine z_bipush (r := 12) dX8_init_13 (by decide) ?_
  refine z_newA (at0 := .int) (ty := .int) (kd := 20) (N := 12) rfl zac_int (Or.inl ⟨rfl, rfl⟩) (by decide) (by decide) (by decide) (by decide +kernel) (by decide +kernel) (by decide +kernel) dX8_init_15 ?_
  refine z_tT (X := TT135) rfl ?_
  refine z_tS (X := SS71) rfl ?_
  refine z_tr (b := 68) (by decide +kernel) ?_
  refine z_putR zfX8_15 (Or.inr ⟨_, rfl⟩) (fun _ => rfl) ⟨by decide +kernel, by decide +kernel⟩ dX8_init_17 ?_
  refine z_tT (X := TT136) rfl ?_
  refine z_aload_n dX8_init_20 rfl ?_
  refine z_new zcX2 zdfX2 zwX8_18 zvX2 zjX2 (by decide +kernel) (by decide +kernel) (by decide +kernel) dX8_init_21 ?_
  refine z_tT (X := TT137) rfl ?_
  refine z_tS (X := SS72) rfl ?_
  refine z_tr (b := 69) (by decide +kernel) ?_
  refine z_dup dX8_init_24 rfl ?_
  refine z_callI (ci := 2) (As := []) rfl rfl zkX8_20 ziX2_init ⟨by decide +kernel, by decide +kernel⟩ ck21 rfl rfl (Nat.le_of_ble_eq_true rfl) (by decide) ⟨(by decide +kernel), (by decide +kernel)⟩ ⟨(by decide +kernel), (by decide +kernel)⟩ dX8_init_25 ?_
  refine z_putR zfX8_21 (Or.inl ⟨_, rfl⟩) (fun _ => rfl) ⟨by decide +kernel, by decide +kernel⟩ dX8_init_28 ?_
  refine z_tT (X := TT140) rfl ?_
  exact z_vret rfl dX8_init_31
def TT141 : zT := zQ TT140 45 4 66
def TT142 : zT := zNT TT141 8 0 5
noncomputable def SS74 : zS := zNS TT141 SS73
def TT143 : zT := zNT TT142 20 12 12
noncomputable def SS75 : zS := zNS TT142 SS74
def TT144 : zT := zQ TT143 71 0 72
def TT145 : zT := zNT TT144 20 12 12
noncomputable def SS76 : zS := zNS TT144 SS75
def TT146 : zT := zQ TT145 71 1 73
def TT147 : zT := zNT TT146 2 0 3
noncomputable def SS77 : zS := zNS TT146 SS76
def TT148 : zT := zNT TT147 20 512 512
noncomputable def SS78 : zS := zNS TT147 SS77
def TT149 : zT := zQ TT148 74 0 75
set_option maxHeartbeats 4000000 in
set_option maxRecDepth 100000 in
theorem ck23 : zGM 1 mX2_init [.ref 74] TT147 SS77 none TT149 SS78 := by
  refine zGM_of zpnX2 rfl (Nat.le_of_ble_eq_true rfl) (fun g => ?_)
  show zg g 1 mX2_init TT147 0 [some (.ref 74)] [] TT147 SS77 none TT149 SS78
  refine z_aload_n dX2_init_0 rfl ?_
  refine z_objInit (by decide) zoX2_3 zoi_inst zoi_code (by decide) (Nat.le_of_ble_eq_true rfl) dX2_init_1 ?_
  refine z_aload_n dX2_init_4 rfl ?_
  refine z_sipush (r := 512) dX2_init_5 (by decide) ?_
  refine z_newA (at0 := .int) (ty := .int) (kd := 20) (N := 512) rfl zac_int (Or.inl ⟨rfl, rfl⟩) (by decide) (by decide) (by decide) (by decide +kernel) (by decide +kernel) (by decide +kernel) dX2_init_8 ?_
  refine z_tT (X := TT148) rfl ?_
  refine z_tS (X := SS78) rfl ?_
  refine z_tr (b := 75) (by decide +kernel) ?_
  refine z_putR zfX2_9 (Or.inr ⟨_, rfl⟩) (fun _ => rfl) ⟨by decide +kernel, by decide +kernel⟩ dX2_init_10 ?_
  refine z_tT (X := TT149) rfl ?_
  exact z_vret rfl dX2_init_13
def TT150 : zT := zQ TT149 71 4 74
set_option maxHeartbeats 4000000 in
set_option maxRecDepth 100000 in
theorem ck24 : zGM 2 mX8_init [.ref 71] TT142 SS74 none TT150 SS78 := by
  refine zGM_of zpnX8 rfl (Nat.le_of_ble_eq_true rfl) (fun g => ?_)
  show zg g 2 mX8_init TT142 0 [some (.ref 71)] [] TT142 SS74 none TT150 SS78
  refine z_aload_n dX8_init_0 rfl ?_
  refine z_objInit (by decide) zoX8_3 zoi_inst zoi_code (by decide) (Nat.le_of_ble_eq_true rfl) dX8_init_1 ?_
  refine z_aload_n dX8_init_4 rfl ?_
  refine z_bipush (r := 12) dX8_init_5 (by decide) ?_
  refine z_newA (at0 := .int) (ty := .int) (kd := 20) (N := 12) rfl zac_int (Or.inl ⟨rfl, rfl⟩) (by decide) (by decide) (by decide) (by decide +kernel) (by decide +kernel) (by decide +kernel) dX8_init_7 ?_
  refine z_tT (X := TT143) rfl ?_
  refine z_tS (X := SS75) rfl ?_
  refine z_tr (b := 72) (by decide +kernel) ?_
  refine z_putR zfX8_9 (Or.inr ⟨_, rfl⟩) (fun _ => rfl) ⟨by decide +kernel, by decide +kernel⟩ dX8_init_9 ?_
  refine z_tT (X := TT144) rfl ?_
  refine z_aload_n dX8_init_12 rfl ?_
  refine z_bipush (r := 12) dX8_init_13 (by decide) ?_
  refine z_newA (at0 := .int) (ty := .int) (kd := 20) (N := 12) rfl zac_int (Or.inl ⟨rfl, rfl⟩) (by decide) (by decide) (by decide) (by decide +kernel) (by decide +kernel) (by decide +kernel) dX8_init_15 ?_
  refine z_tT (X := TT145) rfl ?_
  refine z_tS (X := SS76) rfl ?_
  refine z_tr (b := 73) (by decide +kernel) ?_
  refine z_putR zfX8_15 (Or.inr ⟨_, rfl⟩) (fun _ => rfl) ⟨by decide +kernel, by decide +kernel⟩ dX8_init_17 ?_
  refine z_tT (X := TT146) rfl ?_
  refine z_aload_n dX8_init_20 rfl ?_
  refine z_new zcX2 zdfX2 zwX8_18 zvX2 zjX2 (by decide +kernel) (by decide +kernel) (by decide +kernel) dX8_init_21 ?_
  refine z_tT (X := TT147) rfl ?_
  refine z_tS (X := SS77) rfl ?_
  refine z_tr (b := 74) (by decide +kernel) ?_
  refine z_dup dX8_init_24 rfl ?_
  refine z_callI (ci := 2) (As := []) rfl rfl zkX8_20 ziX2_init ⟨by decide +kernel, by decide +kernel⟩ ck23 rfl rfl (Nat.le_of_ble_eq_true rfl) (by decide) ⟨(by decide +kernel), (by decide +kernel)⟩ ⟨(by decide +kernel), (by decide +kernel)⟩ dX8_init_25 ?_
  refine z_putR zfX8_21 (Or.inl ⟨_, rfl⟩) (fun _ => rfl) ⟨by decide +kernel, by decide +kernel⟩ dX8_init_28 ?_
  refine z_tT (X := TT150) rfl ?_
  exact z_vret rfl dX8_init_31
def TT151 : zT := zQ TT150 45 5 71
def TT152 : zT := zNT TT151 25 4 4
noncomputable def SS79 : zS := zNS TT151 SS78
def TT153 : zT := zQ TT152 0 8 76
def TT154 : zT := zNT TT153 26 4 4
noncomputable def SS80 : zS := zNS TT153 SS79
def TT155 : zT := zQ TT154 0 9 77
def TT156 : zT := zNT TT155 0 0 15
noncomputable def SS81 : zS := zNS TT155 SS80
def TT157 : zT := zNT TT156 20 8 8
noncomputable def SS82 : zS := zNS TT156 SS81
def TT158 : zT := zQ TT157 78 6 79
def TT159 : zT := zNT TT158 20 8 8
noncomputable def SS83 : zS := zNS TT158 SS82
def TT160 : zT := zQ TT159 78 7 80
def TT161 : zT := zNT TT160 20 8 8
noncomputable def SS84 : zS := zNS TT160 SS83
def TT162 : zT := zQ TT161 78 8 81
def TT163 : zT := zNT TT162 20 8 8
noncomputable def SS85 : zS := zNS TT162 SS84
def TT164 : zT := zQ TT163 78 9 82
def TT165 : zT := zNT TT164 20 8 8
noncomputable def SS86 : zS := zNS TT164 SS85
def TT166 : zT := zQ TT165 78 10 83
def TT167 : zT := zNT TT166 20 8 8
noncomputable def SS87 : zS := zNS TT166 SS86
def TT168 : zT := zQ TT167 78 11 84
def TT169 : zT := zNT TT168 1 0 4
noncomputable def SS88 : zS := zNS TT168 SS87
def TT170 : zT := zNT TT169 20 24 24
noncomputable def SS89 : zS := zNS TT169 SS88
def TT171 : zT := zQ TT170 85 0 86
def TT172 : zT := zNT TT171 20 24 24
noncomputable def SS90 : zS := zNS TT171 SS89
def TT173 : zT := zQ TT172 85 1 87
def TT174 : zT := zNT TT173 20 24 24
noncomputable def SS91 : zS := zNS TT173 SS90
def TT175 : zT := zQ TT174 85 2 88
set_option maxHeartbeats 4000000 in
set_option maxRecDepth 100000 in
theorem ck25 : zGM 1 mX1_init [.ref 85] TT169 SS88 none TT175 SS91 := by
  refine zGM_of zpnX1 rfl (Nat.le_of_ble_eq_true rfl) (fun g => ?_)
  show zg g 1 mX1_init TT169 0 [some (.ref 85)] [] TT169 SS88 none TT175 SS91
  refine z_aload_n dX1_init_0 rfl ?_
  refine z_objInit (by decide) zoX1_3 zoi_inst zoi_code (by decide) (Nat.le_of_ble_eq_true rfl) dX1_init_1 ?_
  refine z_aload_n dX1_init_4 rfl ?_
  refine z_bipush (r := 24) dX1_init_5 (by decide) ?_
  refine z_newA (at0 := .int) (ty := .int) (kd := 20) (N := 24) rfl zac_int (Or.inl ⟨rfl, rfl⟩) (by decide) (by decide) (by decide) (by decide +kernel) (by decide +kernel) (by decide +kernel) dX1_init_7 ?_
  refine z_tT (X := TT170) rfl ?_
  refine z_tS (X := SS89) rfl ?_
  refine z_tr (b := 86) (by decide +kernel) ?_
  refine z_putR zfX1_9 (Or.inr ⟨_, rfl⟩) (fun _ => rfl) ⟨by decide +kernel, by decide +kernel⟩ dX1_init_9 ?_
  refine z_tT (X := TT171) rfl ?_
  refine z_aload_n dX1_init_12 rfl ?_
  refine z_bipush (r := 24) dX1_init_13 (by decide) ?_
  refine z_newA (at0 := .int) (ty := .int) (kd := 20) (N := 24) rfl zac_int (Or.inl ⟨rfl, rfl⟩) (by decide) (by decide) (by decide) (by decide +kernel) (by decide +kernel) (by decide +kernel) dX1_init_15 ?_
  refine z_tT (X := TT172) rfl ?_
  refine z_tS (X := SS90) rfl ?_
  refine z_tr (b := 87) (by decide +kernel) ?_
  refine z_putR zfX1_15 (Or.inr ⟨_, rfl⟩) (fun _ => rfl) ⟨by decide +kernel, by decide +kernel⟩ dX1_init_17 ?_
  refine z_tT (X := TT173) rfl ?_
  refine z_aload_n dX1_init_20 rfl ?_
  refine z_bipush (r := 24) dX1_init_21 (by decide) ?_
  refine z_newA (at0 := .int) (ty := .int) (kd := 20) (N := 24) rfl zac_int (Or.inl ⟨rfl, rfl⟩) (by decide) (by decide) (by decide) (by decide +kernel) (by decide +kernel) (by decide +kernel) dX1_init_23 ?_
  refine z_tT (X := TT174) rfl ?_
  refine z_tS (X := SS91) rfl ?_
  refine z_tr (b := 88) (by decide +kernel) ?_
  refine z_putR zfX1_18 (Or.inr ⟨_, rfl⟩) (fun _ => rfl) ⟨by decide +kernel, by decide +kernel⟩ dX1_init_25 ?_
  refine z_tT (X := TT175) rfl ?_
  exact z_vret rfl dX1_init_28
def TT176 : zT := zQ TT175 78 12 85
def TT177 : zT := zNT TT176 1 0 4
noncomputable def SS92 : zS := zNS TT176 SS91
def TT178 : zT := zNT TT177 20 24 24
noncomputable def SS93 : zS := zNS TT177 SS92
def TT179 : zT := zQ TT178 89 0 90
def TT180 : zT := zNT TT179 20 24 24
noncomputable def SS94 : zS := zNS TT179 SS93
def TT181 : zT := zQ TT180 89 1 91
def TT182 : zT := zNT TT181 20 24 24
noncomputable def SS95 : zS := zNS TT181 SS94
def TT183 : zT := zQ TT182 89 2 92
set_option maxHeartbeats 4000000 in
set_option maxRecDepth 100000 in
theorem ck26 : zGM 1 mX1_init [.ref 89] TT177 SS92 none TT183 SS95 := by
  refine zGM_of zpnX1 rfl (Nat.le_of_ble_eq_true rfl) (fun g => ?_)
  show zg g 1 mX1_init TT177 0 [some (.ref 89)] [] TT177 SS92 none TT183 SS95
  refine z_aload_n dX1_init_0 rfl ?_
  refine z_objInit (by decide) zoX1_3 zoi_inst zoi_code (by decide) (Nat.le_of_ble_eq_true rfl) dX1_init_1 ?_
  refine z_aload_n dX1_init_4 rfl ?_
  refine z_bipush (r := 24) dX1_init_5 (by decide) ?_
  refine z_newA (at0 := .int) (ty := .int) (kd := 20) (N := 24) rfl zac_int (Or.inl ⟨rfl, rfl⟩) (by decide) (by decide) (by decide) (by decide +kernel) (by decide +kernel) (by decide +kernel) dX1_init_7 ?_
  refine z_tT (X := TT178) rfl ?_
  refine z_tS (X := SS93) rfl ?_
  refine z_tr (b := 90) (by decide +kernel) ?_
  refine z_putR zfX1_9 (Or.inr ⟨_, rfl⟩) (fun _ => rfl) ⟨by decide +kernel, by decide +kernel⟩ dX1_init_9 ?_
  refine z_tT (X := TT179) rfl ?_
  refine z_aload_n dX1_init_12 rfl ?_
  refine z_bipush (r := 24) dX1_init_13 (by decide) ?_
  refine z_newA (at0 := .int) (ty := .int) (kd := 20) (N := 24) rfl zac_int (Or.inl ⟨rfl, rfl⟩) (by decide) (by decide) (by decide) (by decide +kernel) (by decide +kernel) (by decide +kernel) dX1_init_15 ?_
  refine z_tT (X := TT180) rfl ?_
  refine z_tS (X := SS94) rfl ?_
  refine z_tr (b := 91) (by decide +kernel) ?_
  refine z_putR zfX1_15 (Or.inr ⟨_, rfl⟩) (fun _ => rfl) ⟨by decide +kernel, by decide +kernel⟩ dX1_init_17 ?_
  refine z_tT (X := TT181) rfl ?_
  refine z_aload_n dX1_init_20 rfl ?_
  refine z_bipush (r := 24) dX1_init_21 (by decide) ?_
  refine z_newA (at0 := .int) (ty := .int) (kd := 20) (N := 24) rfl zac_int (Or.inl ⟨rfl, rfl⟩) (by decide) (by decide) (by decide) (by decide +kernel) (by decide +kernel) (by decide +kernel) dX1_init_23 ?_
  refine z_tT (X := TT182) rfl ?_
  refine z_tS (X := SS95) rfl ?_
  refine z_tr (b := 92) (by decide +kernel) ?_
  refine z_putR zfX1_18 (Or.inr ⟨_, rfl⟩) (fun _ => rfl) ⟨by decide +kernel, by decide +kernel⟩ dX1_init_25 ?_
  refine z_tT (X := TT183) rfl ?_
  exact z_vret rfl dX1_init_28
def TT184 : zT := zQ TT183 78 13 89
def TT185 : zT := zNT TT184 2 0 3
noncomputable def SS96 : zS := zNS TT184 SS95
def TT186 : zT := zNT TT185 20 512 512
noncomputable def SS97 : zS := zNS TT185 SS96
def TT187 : zT := zQ TT186 93 0 94
set_option maxHeartbeats 4000000 in
set_option maxRecDepth 100000 in
theorem ck27 : zGM 1 mX2_init [.ref 93] TT185 SS96 none TT187 SS97 := by
  refine zGM_of zpnX2 rfl (Nat.le_of_ble_eq_true rfl) (fun g => ?_)
  show zg g 1 mX2_init TT185 0 [some (.ref 93)] [] TT185 SS96 none TT187 SS97
  refine z_aload_n dX2_init_0 rfl ?_
  refine z_objInit (by decide) zoX2_3 zoi_inst zoi_code (by decide) (Nat.le_of_ble_eq_true rfl) dX2_init_1 ?_
  refine z_aload_n dX2_init_4 rfl ?_
  refine z_sipush (r := 512) dX2_init_5 (by decide) ?_
  refine z_newA (at0 := .int) (ty := .int) (kd := 20) (N := 512) rfl zac_int (Or.inl ⟨rfl, rfl⟩) (by decide) (by decide) (by decide) (by decide +kernel) (by decide +kernel) (by decide +kernel) dX2_init_8 ?_
  refine z_tT (X := TT186) rfl ?_
  refine z_tS (X := SS97) rfl ?_
  refine z_tr (b := 94) (by decide +kernel) ?_
  refine z_putR zfX2_9 (Or.inr ⟨_, rfl⟩) (fun _ => rfl) ⟨by decide +kernel, by decide +kernel⟩ dX2_init_10 ?_
  refine z_tT (X := TT187) rfl ?_
  exact z_vret rfl dX2_init_13
def TT188 : zT := zQ TT187 78 14 93
theorem fx28 : iX0 TT188 78 := ⟨⟨by decide +kernel, by decide +kernel⟩, ⟨by decide +kernel, by decide +kernel, by decide +kernel⟩, ⟨by decide +kernel, by decide +kernel, by decide +kernel⟩, ⟨by decide +kernel, by decide +kernel, by decide +kernel⟩, ⟨by decide +kernel, by decide +kernel, by decide +kernel⟩, ⟨by decide +kernel, by decide +kernel, by decide +kernel⟩, ⟨by decide +kernel, by decide +kernel, by decide +kernel⟩, ⟨⟨by decide +kernel, by decide +kernel⟩, ⟨by decide +kernel, by decide +kernel, by decide +kernel⟩, ⟨by decide +kernel, by decide +kernel, by decide +kernel⟩, ⟨by decide +kernel, by decide +kernel, by decide +kernel⟩⟩, ⟨⟨by decide +kernel, by decide +kernel⟩, ⟨by decide +kernel, by decide +kernel, by decide +kernel⟩, ⟨by decide +kernel, by decide +kernel, by decide +kernel⟩, ⟨by decide +kernel, by decide +kernel, by decide +kernel⟩⟩, ⟨⟨by decide +kernel, by decide +kernel⟩, ⟨by decide +kernel, by decide +kernel, by decide +kernel⟩⟩⟩
noncomputable def SS98 : zS := (match fX0_clear TT188 78 SS97 with | some r => r.2 | none => SS97)
set_option maxHeartbeats 4000000 in
set_option maxRecDepth 100000 in
theorem ck29 : zGM 2 mX0_init [.ref 78] TT156 SS81 none TT188 SS98 := by
  refine zGM_of zpnX0 rfl (Nat.le_of_ble_eq_true rfl) (fun g => ?_)
  show zg g 2 mX0_init TT156 0 [some (.ref 78)] [] TT156 SS81 none TT188 SS98
  refine z_aload_n dX0_init_0 rfl ?_
  refine z_objInit (by decide) zoX0_3 zoi_inst zoi_code (by decide) (Nat.le_of_ble_eq_true rfl) dX0_init_1 ?_
  refine z_aload_n dX0_init_4 rfl ?_
  refine z_bipush (r := 8) dX0_init_5 (by decide) ?_
  refine z_newA (at0 := .int) (ty := .int) (kd := 20) (N := 8) rfl zac_int (Or.inl ⟨rfl, rfl⟩) (by decide) (by decide) (by decide) (by decide +kernel) (by decide +kernel) (by decide +kernel) dX0_init_7 ?_
  refine z_tT (X := TT157) rfl ?_
  refine z_tS (X := SS82) rfl ?_
  refine z_tr (b := 79) (by decide +kernel) ?_
  refine z_putR zfX0_9 (Or.inr ⟨_, rfl⟩) (fun _ => rfl) ⟨by decide +kernel, by decide +kernel⟩ dX0_init_9 ?_
  refine z_tT (X := TT158) rfl ?_
  refine z_aload_n dX0_init_12 rfl ?_
  refine z_bipush (r := 8) dX0_init_13 (by decide) ?_
  refine z_newA (at0 := .int) (ty := .int) (kd := 20) (N := 8) rfl zac_int (Or.inl ⟨rfl, rfl⟩) (by decide) (by decide) (by decide) (by decide +kernel) (by decide +kernel) (by decide +kernel) dX0_init_15 ?_
  refine z_tT (X := TT159) rfl ?_
  refine z_tS (X := SS83) rfl ?_
  refine z_tr (b := 80) (by decide +kernel) ?_
  refine z_putR zfX0_15 (Or.inr ⟨_, rfl⟩) (fun _ => rfl) ⟨by decide +kernel, by decide +kernel⟩ dX0_init_17 ?_
  refine z_tT (X := TT160) rfl ?_
  refine z_aload_n dX0_init_20 rfl ?_
  refine z_bipush (r := 8) dX0_init_21 (by decide) ?_
  refine z_newA (at0 := .int) (ty := .int) (kd := 20) (N := 8) rfl zac_int (Or.inl ⟨rfl, rfl⟩) (by decide) (by decide) (by decide) (by decide +kernel) (by decide +kernel) (by decide +kernel) dX0_init_23 ?_
  refine z_tT (X := TT161) rfl ?_
  refine z_tS (X := SS84) rfl ?_
  refine z_tr (b := 81) (by decide +kernel) ?_
  refine z_putR zfX0_18 (Or.inr ⟨_, rfl⟩) (fun _ => rfl) ⟨by decide +kernel, by decide +kernel⟩ dX0_init_25 ?_
  refine z_tT (X := TT162) rfl ?_
  refine z_aload_n dX0_init_28 rfl ?_
  refine z_bipush (r := 8) dX0_init_29 (by decide) ?_
  refine z_newA (at0 := .int) (ty := .int) (kd := 20) (N := 8) rfl zac_int (Or.inl ⟨rfl, rfl⟩) (by decide) (by decide) (by decide) (by decide +kernel) (by decide +kernel) (by decide +kernel) dX0_init_31 ?_
  refine z_tT (X := TT163) rfl ?_
  refine z_tS (X := SS85) rfl ?_
  refine z_tr (b := 82) (by decide +kernel) ?_
  refine z_putR zfX0_21 (Or.inr ⟨_, rfl⟩) (fun _ => rfl) ⟨by decide +kernel, by decide +kernel⟩ dX0_init_33 ?_
  refine z_tT (X := TT164) rfl ?_
  refine z_aload_n dX0_init_36 rfl ?_
  refine z_bipush (r := 8) dX0_init_37 (by decide) ?_
  refine z_newA (at0 := .int) (ty := .int) (kd := 20) (N := 8) rfl zac_int (Or.inl ⟨rfl, rfl⟩) (by decide) (by decide) (by decide) (by decide +kernel) (by decide +kernel) (by decide +kernel) dX0_init_39 ?_
  refine z_tT (X := TT165) rfl ?_
  refine z_tS (X := SS86) rfl ?_
  refine z_tr (b := 83) (by decide +kernel) ?_
  refine z_putR zfX0_24 (Or.inr ⟨_, rfl⟩) (fun _ => rfl) ⟨by decide +kernel, by decide +kernel⟩ dX0_init_41 ?_
  refine z_tT (X := TT166) rfl ?_
  refine z_aload_n dX0_init_44 rfl ?_
  refine z_bipush (r := 8) dX0_init_45 (by decide) ?_
  refine z_newA (at0 := .int) (ty := .int) (kd := 20) (N := 8) rfl zac_int (Or.inl ⟨rfl, rfl⟩) (by decide) (by decide) (by decide) (by decide +kernel) (by decide +kernel) (by decide +kernel) dX0_init_47 ?_
  refine z_tT (X := TT167) rfl ?_
  refine z_tS (X := SS87) rfl ?_
  refine z_tr (b := 84) (by decide +kernel) ?_
  refine z_putR zfX0_27 (Or.inr ⟨_, rfl⟩) (fun _ => rfl) ⟨by decide +kernel, by decide +kernel⟩ dX0_init_49 ?_
  refine z_tT (X := TT168) rfl ?_
  refine z_aload_n dX0_init_52 rfl ?_
  refine z_new zcX1 zdfX1 zwX0_30 zvX1 zjX1 (by decide +kernel) (by decide +kernel) (by decide +kernel) dX0_init_53 ?_
  refine z_tT (X := TT169) rfl ?_
  refine z_tS (X := SS88) rfl ?_
  refine z_tr (b := 85) (by decide +kernel) ?_
  refine z_dup dX0_init_56 rfl ?_
  refine z_callI (ci := 1) (As := []) rfl rfl zkX0_32 ziX1_init ⟨by decide +kernel, by decide +kernel⟩ ck25 rfl rfl (Nat.le_of_ble_eq_true rfl) (by decide) ⟨(by decide +kernel), (by decide +kernel)⟩ ⟨(by decide +kernel), (by decide +kernel)⟩ dX0_init_57 ?_
  refine z_putR zfX0_33 (Or.inl ⟨_, rfl⟩) (fun _ => rfl) ⟨by decide +kernel, by decide +kernel⟩ dX0_init_60 ?_
  refine z_tT (X := TT176) rfl ?_
  refine z_aload_n dX0_init_63 rfl ?_
  refine z_new zcX1 zdfX1 zwX0_30 zvX1 zjX1 (by decide +kernel) (by decide +kernel) (by decide +kernel) dX0_init_64 ?_
  refine z_tT (X := TT177) rfl ?_
  refine z_tS (X := SS92) rfl ?_
  refine z_tr (b := 89) (by decide +kernel) ?_
  refine z_dup dX0_init_67 rfl ?_
  refine z_callI (ci := 1) (As := []) rfl rfl zkX0_32 ziX1_init ⟨by decide +kernel, by decide +kernel⟩ ck26 rfl rfl (Nat.le_of_ble_eq_true rfl) (by decide) ⟨(by decide +kernel), (by decide +kernel)⟩ ⟨(by decide +kernel), (by decide +kernel)⟩ dX0_init_68 ?_
  refine z_putR zfX0_37 (Or.inl ⟨_, rfl⟩) (fun _ => rfl) ⟨by decide +kernel, by decide +kernel⟩ dX0_init_71 ?_
  refine z_tT (X := TT184) rfl ?_
  refine z_aload_n dX0_init_74 rfl ?_
  refine z_new zcX2 zdfX2 zwX0_40 zvX2 zjX2 (by decide +kernel) (by decide +kernel) (by decide +kernel) dX0_init_75 ?_
  refine z_tT (X := TT185) rfl ?_
  refine z_tS (X := SS96) rfl ?_
  refine z_tr (b := 93) (by decide +kernel) ?_
  refine z_dup dX0_init_78 rfl ?_
  refine z_callI (ci := 2) (As := []) rfl rfl zkX0_42 ziX2_init ⟨by decide +kernel, by decide +kernel⟩ ck27 rfl rfl (Nat.le_of_ble_eq_true rfl) (by decide) ⟨(by decide +kernel), (by decide +kernel)⟩ ⟨(by decide +kernel), (by decide +kernel)⟩ dX0_init_79 ?_
  refine z_putR zfX0_43 (Or.inl ⟨_, rfl⟩) (fun _ => rfl) ⟨by decide +kernel, by decide +kernel⟩ dX0_init_82 ?_
  refine z_tT (X := TT188) rfl ?_
  refine z_aload_n dX0_init_85 rfl ?_
  refine z_callV (As := []) zcX0 zkX0_47 ziX0_clear zqX0_clear ⟨by decide +kernel, by decide +kernel⟩ (tX0_clear TT188 78 SS97 fx28 ((), SS98) rfl) rfl rfl (Nat.le_of_ble_eq_true rfl) (by decide) ⟨Nat.le_refl _, Nat.le_refl _⟩ ⟨(by decide +kernel), (by decide +kernel)⟩ dX0_init_86 ?_
  exact z_vret rfl dX0_init_89
def TT189 : zT := zQ TT188 76 0 78
def TT190 : zT := zNT TT189 7 0 4
noncomputable def SS99 : zS := zNS TT189 SS98
def TT191 : zT := zNT TT190 20 60 60
noncomputable def SS100 : zS := zNS TT190 SS99
def TT192 : zT := zQ TT191 95 0 96
def TT193 : zT := zNT TT192 20 60 60
noncomputable def SS101 : zS := zNS TT192 SS100
def TT194 : zT := zQ TT193 95 1 97
def TT195 : zT := zNT TT194 20 60 60
noncomputable def SS102 : zS := zNS TT194 SS101
def TT196 : zT := zQ TT195 95 2 98
set_option maxHeartbeats 4000000 in
set_option maxRecDepth 100000 in
theorem ck30 : zGM 1 mX7_init [.ref 95] TT190 SS99 none TT196 SS102 := by
  refine zGM_of zpnX7 rfl (Nat.le_of_ble_eq_true rfl) (fun g => ?_)
  show zg g 1 mX7_init TT190 0 [some (.ref 95)] [] TT190 SS99 none TT196 SS102
  refine z_aload_n dX7_init_0 rfl ?_
  refine z_objInit (by decide) zoX7_3 zoi_inst zoi_code (by decide) (Nat.le_of_ble_eq_true rfl) dX7_init_1 ?_
  refine z_aload_n dX7_init_4 rfl ?_
  refine z_bipush (r := 60) dX7_init_5 (by decide) ?_
  refine z_newA (at0 := .int) (ty := .int) (kd := 20) (N := 60) rfl zac_int (Or.inl ⟨rfl, rfl⟩) (by decide) (by decide) (by decide) (by decide +kernel) (by decide +kernel) (by decide +kernel) dX7_init_7 ?_
  refine z_tT (X := TT191) rfl ?_
  refine z_tS (X := SS100) rfl ?_
  refine z_tr (b := 96) (by decide +kernel) ?_
  refine z_putR zfX7_9 (Or.inr ⟨_, rfl⟩) (fun _ => rfl) ⟨by decide +kernel, by decide +kernel⟩ dX7_init_9 ?_
  refine z_tT (X := TT192) rfl ?_
  refine z_aload_n dX7_init_12 rfl ?_
  refine z_bipush (r := 60) dX7_init_13 (by decide) ?_
  refine z_newA (at0 := .int) (ty := .int) (kd := 20) (N := 60) rfl zac_int (Or.inl ⟨rfl, rfl⟩) (by decide) (by decide) (by decide) (by decide +kernel) (by decide +kernel) (by decide +kernel) dX7_init_15 ?_
  refine z_tT (X := TT193) rfl ?_
  refine z_tS (X := SS101) rfl ?_
  refine z_tr (b := 97) (by decide +kernel) ?_
  refine z_putR zfX7_15 (Or.inr ⟨_, rfl⟩) (fun _ => rfl) ⟨by decide +kernel, by decide +kernel⟩ dX7_init_17 ?_
  refine z_tT (X := TT194) rfl ?_
  refine z_aload_n dX7_init_20 rfl ?_
  refine z_bipush (r := 60) dX7_init_21 (by decide) ?_
  refine z_newA (at0 := .int) (ty := .int) (kd := 20) (N := 60) rfl zac_int (Or.inl ⟨rfl, rfl⟩) (by decide) (by decide) (by decide) (by decide +kernel) (by decide +kernel) (by decide +kernel) dX7_init_23 ?_
  refine z_tT (X := TT195) rfl ?_
  refine z_tS (X := SS102) rfl ?_
  refine z_tr (b := 98) (by decide +kernel) ?_
  refine z_putR zfX7_18 (Or.inr ⟨_, rfl⟩) (fun _ => rfl) ⟨by decide +kernel, by decide +kernel⟩ dX7_init_25 ?_
  refine z_tT (X := TT196) rfl ?_
  exact z_vret rfl dX7_init_28
def TT197 : zT := zQ TT196 77 0 95
def TT198 : zT := zNT TT197 0 0 15
noncomputable def SS103 : zS := zNS TT197 SS102
def TT199 : zT := zNT TT198 20 8 8
noncomputable def SS104 : zS := zNS TT198 SS103
def TT200 : zT := zQ TT199 99 6 100
def TT201 : zT := zNT TT200 20 8 8
noncomputable def SS105 : zS := zNS TT200 SS104
def TT202 : zT := zQ TT201 99 7 101
def TT203 : zT := zNT TT202 20 8 8
noncomputable def SS106 : zS := zNS TT202 SS105
def TT204 : zT := zQ TT203 99 8 102
def TT205 : zT := zNT TT204 20 8 8
noncomputable def SS107 : zS := zNS TT204 SS106
def TT206 : zT := zQ TT205 99 9 103
def TT207 : zT := zNT TT206 20 8 8
noncomputable def SS108 : zS := zNS TT206 SS107
def TT208 : zT := zQ TT207 99 10 104
def TT209 : zT := zNT TT208 20 8 8
noncomputable def SS109 : zS := zNS TT208 SS108
def TT210 : zT := zQ TT209 99 11 105
def TT211 : zT := zNT TT210 1 0 4
noncomputable def SS110 : zS := zNS TT210 SS109
def TT212 : zT := zNT TT211 20 24 24
noncomputable def SS111 : zS := zNS TT211 SS110
def TT213 : zT := zQ TT212 106 0 107
def TT214 : zT := zNT TT213 20 24 24
noncomputable def SS112 : zS := zNS TT213 SS111
def TT215 : zT := zQ TT214 106 1 108
def TT216 : zT := zNT TT215 20 24 24
noncomputable def SS113 : zS := zNS TT215 SS112
def TT217 : zT := zQ TT216 106 2 109
set_option maxHeartbeats 4000000 in
set_option maxRecDepth 100000 in
theorem ck31 : zGM 1 mX1_init [.ref 106] TT211 SS110 none TT217 SS113 := by
  refine zGM_of zpnX1 rfl (Nat.le_of_ble_eq_true rfl) (fun g => ?_)
  show zg g 1 mX1_init TT211 0 [some (.ref 106)] [] TT211 SS110 none TT217 SS113
  refine z_aload_n dX1_init_0 rfl ?_
  refine z_objInit (by decide) zoX1_3 zoi_inst zoi_code (by decide) (Nat.le_of_ble_eq_true rfl) dX1_init_1 ?_
  refine z_aload_n dX1_init_4 rfl ?_
  refine z_bipush (r := 24) dX1_init_5 (by decide) ?_
  refine z_newA (at0 := .int) (ty := .int) (kd := 20) (N := 24) rfl zac_int (Or.inl ⟨rfl, rfl⟩) (by decide) (by decide) (by decide) (by decide +kernel) (by decide +kernel) (by decide +kernel) dX1_init_7 ?_
  refine z_tT (X := TT212) rfl ?_
  refine z_tS (X := SS111) rfl ?_
  refine z_tr (b := 107) (by decide +kernel) ?_
  refine z_putR zfX1_9 (Or.inr ⟨_, rfl⟩) (fun _ => rfl) ⟨by decide +kernel, by decide +kernel⟩ dX1_init_9 ?_
  refine z_tT (X := TT213) rfl ?_
  refine z_aload_n dX1_init_12 rfl ?_
  refine z_bipush (r := 24) dX1_init_13 (by decide) ?_
  refine z_newA (at0 := .int) (ty := .int) (kd := 20) (N := 24) rfl zac_int (Or.inl ⟨rfl, rfl⟩) (by decide) (by decide) (by decide) (by decide +kernel) (by decide +kernel) (by decide +kernel) dX1_init_15 ?_
  refine z_tT (X := TT214) rfl ?_
  refine z_tS (X := SS112) rfl ?_
  refine z_tr (b := 108) (by decide +kernel) ?_
  refine z_putR zfX1_15 (Or.inr ⟨_, rfl⟩) (fun _ => rfl) ⟨by decide +kernel, by decide +kernel⟩ dX1_init_17 ?_
  refine z_tT (X := TT215) rfl ?_
  refine z_aload_n dX1_init_20 rfl ?_
  refine z_bipush (r := 24) dX1_init_21 (by decide) ?_
  refine z_newA (at0 := .int) (ty := .int) (kd := 20) (N := 24) rfl zac_int (Or.inl ⟨rfl, rfl⟩) (by decide) (by decide) (by decide) (by decide +kernel) (by decide +kernel) (by decide +kernel) dX1_init_23 ?_
  refine z_tT (X := TT216) rfl ?_
  refine z_tS (X := SS113) rfl ?_
  refine z_tr (b := 109) (by decide +kernel) ?_
  refine z_putR zfX1_18 (Or.inr ⟨_, rfl⟩) (fun _ => rfl) ⟨by decide +kernel, by decide +kernel⟩ dX1_init_25 ?_
  refine z_tT (X := TT217) rfl ?_
  exact z_vret rfl dX1_init_28
def TT218 : zT := zQ TT217 99 12 106
def TT219 : zT := zNT TT218 1 0 4
noncomputable def SS114 : zS := zNS TT218 SS113
def TT220 : zT := zNT TT219 20 24 24
noncomputable def SS115 : zS := zNS TT219 SS114
def TT221 : zT := zQ TT220 110 0 111
def TT222 : zT := zNT TT221 20 24 24
noncomputable def SS116 : zS := zNS TT221 SS115
def TT223 : zT := zQ TT222 110 1 112
def TT224 : zT := zNT TT223 20 24 24
noncomputable def SS117 : zS := zNS TT223 SS116
def TT225 : zT := zQ TT224 110 2 113
set_option maxHeartbeats 4000000 in
set_option maxRecDepth 100000 in
theorem ck32 : zGM 1 mX1_init [.ref 110] TT219 SS114 none TT225 SS117 := by
  refine zGM_of zpnX1 rfl (Nat.le_of_ble_eq_true rfl) (fun g => ?_)
  show zg g 1 mX1_init TT219 0 [some (.ref 110)] [] TT219 SS114 none TT225 SS117
  refine z_aload_n dX1_init_0 rfl ?_
  refine z_objInit (by decide) zoX1_3 zoi_inst zoi_code (by decide) (Nat.le_of_ble_eq_true rfl) dX1_init_1 ?_
  refine z_aload_n dX1_init_4 rfl ?_
  refine z_bipush (r := 24) dX1_init_5 (by decide) ?_
  refine z_newA (at0 := .int) (ty := .int) (kd := 20) (N := 24) rfl zac_int (Or.inl ⟨rfl, rfl⟩) (by decide) (by decide) (by decide) (by decide +kernel) (by decide +kernel) (by decide +kernel) dX1_init_7 ?_
  refine z_tT (X := TT220) rfl ?_
  refine z_tS (X := SS115) rfl ?_
  refine z_tr (b := 111) (by decide +kernel) ?_
  refine z_putR zfX1_9 (Or.inr ⟨_, rfl⟩) (fun _ => rfl) ⟨by decide +kernel, by decide +kernel⟩ dX1_init_9 ?_
  refine z_tT (X := TT221) rfl ?_
  refine z_aload_n dX1_init_12 rfl ?_
  refine z_bipush (r := 24) dX1_init_13 (by decide) ?_
  refine z_newA (at0 := .int) (ty := .int) (kd := 20) (N := 24) rfl zac_int (Or.inl ⟨rfl, rfl⟩) (by decide) (by decide) (by decide) (by decide +kernel) (by decide +kernel) (by decide +kernel) dX1_init_15 ?_
  refine z_tT (X := TT222) rfl ?_
  refine z_tS (X := SS116) rfl ?_
  refine z_tr (b := 112) (by decide +kernel) ?_
  refine z_putR zfX1_15 (Or.inr ⟨_, rfl⟩) (fun _ => rfl) ⟨by decide +kernel, by decide +kernel⟩ dX1_init_17 ?_
  refine z_tT (X := TT223) rfl ?_
  refine z_aload_n dX1_init_20 rfl ?_
  refine z_bipush (r := 24) dX1_init_21 (by decide) ?_
  refine z_newA (at0 := .int) (ty := .int) (kd := 20) (N := 24) rfl zac_int (Or.inl ⟨rfl, rfl⟩) (by decide) (by decide) (by decide) (by decide +kernel) (by decide +kernel) (by decide +kernel) dX1_init_23 ?_
  refine z_tT (X := TT224) rfl ?_
  refine z_tS (X := SS117) rfl ?_
  refine z_tr (b := 113) (by decide +kernel) ?_
  refine z_putR zfX1_18 (Or.inr ⟨_, rfl⟩) (fun _ => rfl) ⟨by decide +kernel, by decide +kernel⟩ dX1_init_25 ?_
  refine z_tT (X := TT225) rfl ?_
  exact z_vret rfl dX1_init_28
def TT226 : zT := zQ TT225 99 13 110
def TT227 : zT := zNT TT226 2 0 3
noncomputable def SS118 : zS := zNS TT226 SS117
def TT228 : zT := zNT TT227 20 512 512
noncomputable def SS119 : zS := zNS TT227 SS118
def TT229 : zT := zQ TT228 114 0 115
set_option maxHeartbeats 4000000 in
set_option maxRecDepth 100000 in
theorem ck33 : zGM 1 mX2_init [.ref 114] TT227 SS118 none TT229 SS119 := by
  refine zGM_of zpnX2 rfl (Nat.le_of_ble_eq_true rfl) (fun g => ?_)
  show zg g 1 mX2_init TT227 0 [some (.ref 114)] [] TT227 SS118 none TT229 SS119
  refine z_aload_n dX2_init_0 rfl ?_
  refine z_objInit (by decide) zoX2_3 zoi_inst zoi_code (by decide) (Nat.le_of_ble_eq_true rfl) dX2_init_1 ?_
  refine z_aload_n dX2_init_4 rfl ?_
  refine z_sipush (r := 512) dX2_init_5 (by decide) ?_
  refine z_newA (at0 := .int) (ty := .int) (kd := 20) (N := 512) rfl zac_int (Or.inl ⟨rfl, rfl⟩) (by decide) (by decide) (by decide) (by decide +kernel) (by decide +kernel) (by decide +kernel) dX2_init_8 ?_
  refine z_tT (X := TT228) rfl ?_
  refine z_tS (X := SS119) rfl ?_
  refine z_tr (b := 115) (by decide +kernel) ?_
  refine z_putR zfX2_9 (Or.inr ⟨_, rfl⟩) (fun _ => rfl) ⟨by decide +kernel, by decide +kernel⟩ dX2_init_10 ?_
  refine z_tT (X := TT229) rfl ?_
  exact z_vret rfl dX2_init_13
def TT230 : zT := zQ TT229 99 14 114
theorem fx34 : iX0 TT230 99 := ⟨⟨by decide +kernel, by decide +kernel⟩, ⟨by decide +kernel, by decide +kernel, by decide +kernel⟩, ⟨by decide +kernel, by decide +kernel, by decide +kernel⟩, ⟨by decide +kernel, by decide +kernel, by decide +kernel⟩, ⟨by decide +kernel, by decide +kernel, by decide +kernel⟩, ⟨by decide +kernel, by decide +kernel, by decide +kernel⟩, ⟨by decide +kernel, by decide +kernel, by decide +kernel⟩, ⟨⟨by decide +kernel, by decide +kernel⟩, ⟨by decide +kernel, by decide +kernel, by decide +kernel⟩, ⟨by decide +kernel, by decide +kernel, by decide +kernel⟩, ⟨by decide +kernel, by decide +kernel, by decide +kernel⟩⟩, ⟨⟨by decide +kernel, by decide +kernel⟩, ⟨by decide +kernel, by decide +kernel, by decide +kernel⟩, ⟨by decide +kernel, by decide +kernel, by decide +kernel⟩, ⟨by decide +kernel, by decide +kernel, by decide +kernel⟩⟩, ⟨⟨by decide +kernel, by decide +kernel⟩, ⟨by decide +kernel, by decide +kernel, by decide +kernel⟩⟩⟩
noncomputable def SS120 : zS := (match fX0_clear TT230 99 SS119 with | some r => r.2 | none => SS119)
set_option maxHeartbeats 4000000 in
set_option maxRecDepth 100000 in
theorem ck35 : zGM 2 mX0_init [.ref 99] TT198 SS103 none TT230 SS120 := by
  refine zGM_of zpnX0 rfl (Nat.le_of_ble_eq_true rfl) (fun g => ?_)
  show zg g 2 mX0_init TT198 0 [some (.ref 99)] [] TT198 SS103 none TT230 SS120
  refine z_aload_n dX0_init_0 rfl ?_
  refine z_objInit (by decide) zoX0_3 zoi_inst zoi_code (by decide) (Nat.le_of_ble_eq_true rfl) dX0_init_1 ?_
  refine z_aload_n dX0_init_4 rfl ?_
  refine z_bipush (r := 8) dX0_init_5 (by decide) ?_
  refine z_newA (at0 := .int) (ty := .int) (kd := 20) (N := 8) rfl zac_int (Or.inl ⟨rfl, rfl⟩) (by decide) (by decide) (by decide) (by decide +kernel) (by decide +kernel) (by decide +kernel) dX0_init_7 ?_
  refine z_tT (X := TT199) rfl ?_
  refine z_tS (X := SS104) rfl ?_
  refine z_tr (b := 100) (by decide +kernel) ?_
  refine z_putR zfX0_9 (Or.inr ⟨_, rfl⟩) (fun _ => rfl) ⟨by decide +kernel, by decide +kernel⟩ dX0_init_9 ?_
  refine z_tT (X := TT200) rfl ?_
  refine z_aload_n dX0_init_12 rfl ?_
  refine z_bipush (r := 8) dX0_init_13 (by decide) ?_
  refine z_newA (at0 := .int) (ty := .int) (kd := 20) (N := 8) rfl zac_int (Or.inl ⟨rfl, rfl⟩) (by decide) (by decide) (by decide) (by decide +kernel) (by decide +kernel) (by decide +kernel) dX0_init_15 ?_
  refine z_tT (X := TT201) rfl ?_
  refine z_tS (X := SS105) rfl ?_
  refine z_tr (b := 101) (by decide +kernel) ?_
  refine z_putR zfX0_15 (Or.inr ⟨_, rfl⟩) (fun _ => rfl) ⟨by decide +kernel, by decide +kernel⟩ dX0_init_17 ?_
  refine z_tT (X := TT202) rfl ?_
  refine z_aload_n dX0_init_20 rfl ?_
  refine z_bipush (r := 8) dX0_init_21 (by decide) ?_
  refine z_newA (at0 := .int) (ty := .int) (kd := 20) (N := 8) rfl zac_int (Or.inl ⟨rfl, rfl⟩) (by decide) (by decide) (by decide) (by decide +kernel) (by decide +kernel) (by decide +kernel) dX0_init_23 ?_
  refine z_tT (X := TT203) rfl ?_
  refine z_tS (X := SS106) rfl ?_
  refine z_tr (b := 102) (by decide +kernel) ?_
  refine z_putR zfX0_18 (Or.inr ⟨_, rfl⟩) (fun _ => rfl) ⟨by decide +kernel, by decide +kernel⟩ dX0_init_25 ?_
  refine z_tT (X := TT204) rfl ?_
  refine z_aload_n dX0_init_28 rfl ?_
  refine z_bipush (r := 8) dX0_init_29 (by decide) ?_
  refine z_newA (at0 := .int) (ty := .int) (kd := 20) (N := 8) rfl zac_int (Or.inl ⟨rfl, rfl⟩) (by decide) (by decide) (by decide) (by decide +kernel) (by decide +kernel) (by decide +kernel) dX0_init_31 ?_
  refine z_tT (X := TT205) rfl ?_
  refine z_tS (X := SS107) rfl ?_
  refine z_tr (b := 103) (by decide +kernel) ?_
  refine z_putR zfX0_21 (Or.inr ⟨_, rfl⟩) (fun _ => rfl) ⟨by decide +kernel, by decide +kernel⟩ dX0_init_33 ?_
  refine z_tT (X := TT206) rfl ?_
  refine z_aload_n dX0_init_36 rfl ?_
  refine z_bipush (r := 8) dX0_init_37 (by decide) ?_
  refine z_newA (at0 := .int) (ty := .int) (kd := 20) (N := 8) rfl zac_int (Or.inl ⟨rfl, rfl⟩) (by decide) (by decide) (by decide) (by decide +kernel) (by decide +kernel) (by decide +kernel) dX0_init_39 ?_
  refine z_tT (X := TT207) rfl ?_
  refine z_tS (X := SS108) rfl ?_
  refine z_tr (b := 104) (by decide +kernel) ?_
  refine z_putR zfX0_24 (Or.inr ⟨_, rfl⟩) (fun _ => rfl) ⟨by decide +kernel, by decide +kernel⟩ dX0_init_41 ?_
  refine z_tT (X := TT208) rfl ?_
  refine z_aload_n dX0_init_44 rfl ?_
  refine z_bipush (r := 8) dX0_init_45 (by decide) ?_
  refine z_newA (at0 := .int) (ty := .int) (kd := 20) (N := 8) rfl zac_int (Or.inl ⟨rfl, rfl⟩) (by decide) (by decide) (by decide) (by decide +kernel) (by decide +kernel) (by decide +kernel) dX0_init_47 ?_
  refine z_tT (X := TT209) rfl ?_
  refine z_tS (X := SS109) rfl ?_
  refine z_tr (b := 105) (by decide +kernel) ?_
  refine z_putR zfX0_27 (Or.inr ⟨_, rfl⟩) (fun _ => rfl) ⟨by decide +kernel, by decide +kernel⟩ dX0_init_49 ?_
  refine z_tT (X := TT210) rfl ?_
  refine z_aload_n dX0_init_52 rfl ?_
  refine z_new zcX1 zdfX1 zwX0_30 zvX1 zjX1 (by decide +kernel) (by decide +kernel) (by decide +kernel) dX0_init_53 ?_
  refine z_tT (X := TT211) rfl ?_
  refine z_tS (X := SS110) rfl ?_
  refine z_tr (b := 106) (by decide +kernel) ?_
  refine z_dup dX0_init_56 rfl ?_
  refine z_callI (ci := 1) (As := []) rfl rfl zkX0_32 ziX1_init ⟨by decide +kernel, by decide +kernel⟩ ck31 rfl rfl (Nat.le_of_ble_eq_true rfl) (by decide) ⟨(by decide +kernel), (by decide +kernel)⟩ ⟨(by decide +kernel), (by decide +kernel)⟩ dX0_init_57 ?_
  refine z_putR zfX0_33 (Or.inl ⟨_, rfl⟩) (fun _ => rfl) ⟨by decide +kernel, by decide +kernel⟩ dX0_init_60 ?_
  refine z_tT (X := TT218) rfl ?_
  refine z_aload_n dX0_init_63 rfl ?_
  refine z_new zcX1 zdfX1 zwX0_30 zvX1 zjX1 (by decide +kernel) (by decide +kernel) (by decide +kernel) dX0_init_64 ?_
  refine z_tT (X := TT219) rfl ?_
  refine z_tS (X := SS114) rfl ?_
  refine z_tr (b := 110) (by decide +kernel) ?_
  refine z_dup dX0_init_67 rfl ?_
  refine z_callI (ci := 1) (As := []) rfl rfl zkX0_32 ziX1_init ⟨by decide +kernel, by decide +kernel⟩ ck32 rfl rfl (Nat.le_of_ble_eq_true rfl) (by decide) ⟨(by decide +kernel), (by decide +kernel)⟩ ⟨(by decide +kernel), (by decide +kernel)⟩ dX0_init_68 ?_
  refine z_putR zfX0_37 (Or.inl ⟨_, rfl⟩) (fun _ => rfl) ⟨by decide +kernel, by decide +kernel⟩ dX0_init_71 ?_
  refine z_tT (X := TT226) rfl ?_
  refine z_aload_n dX0_init_74 rfl ?_
  refine z_new zcX2 zdfX2 zwX0_40 zvX2 zjX2 (by decide +kernel) (by decide +kernel) (by decide +kernel) dX0_init_75 ?_
  refine z_tT (X := TT227) rfl ?_
  refine z_tS (X := SS118) rfl ?_
  refine z_tr (b := 114) (by decide +kernel) ?_
  refine z_dup dX0_init_78 rfl ?_
  refine z_callI (ci := 2) (As := []) rfl rfl zkX0_42 ziX2_init ⟨by decide +kernel, by decide +kernel⟩ ck33 rfl rfl (Nat.le_of_ble_eq_true rfl) (by decide) ⟨(by decide +kernel), (by decide +kernel)⟩ ⟨(by decide +kernel), (by decide +kernel)⟩ dX0_init_79 ?_
  refine z_putR zfX0_43 (Or.inl ⟨_, rfl⟩) (fun _ => rfl) ⟨by decide +kernel, by decide +kernel⟩ dX0_init_82 ?_
  refine z_tT (X := TT230) rfl ?_
  refine z_aload_n dX0_init_85 rfl ?_
  refine z_callV (As := []) zcX0 zkX0_47 ziX0_clear zqX0_clear ⟨by decide +kernel, by decide +kernel⟩ (tX0_clear TT230 99 SS119 fx34 ((), SS120) rfl) rfl rfl (Nat.le_of_ble_eq_true rfl) (by decide) ⟨Nat.le_refl _, Nat.le_refl _⟩ ⟨(by decide +kernel), (by decide +kernel)⟩ dX0_init_86 ?_
  exact z_vret rfl dX0_init_89
def TT231 : zT := zQ TT230 76 1 99
def TT232 : zT := zNT TT231 7 0 4
noncomputable def SS121 : zS := zNS TT231 SS120
def TT233 : zT := zNT TT232 20 60 60
noncomputable def SS122 : zS := zNS TT232 SS121
def TT234 : zT := zQ TT233 116 0 117
def TT235 : zT := zNT TT234 20 60 60
noncomputable def SS123 : zS := zNS TT234 SS122
def TT236 : zT := zQ TT235 116 1 118
def TT237 : zT := zNT TT236 20 60 60
noncomputable def SS124 : zS := zNS TT236 SS123
def TT238 : zT := zQ TT237 116 2 119
set_option maxHeartbeats 4000000 in
set_option maxRecDepth 100000 in
theorem ck36 : zGM 1 mX7_init [.ref 116] TT232 SS121 none TT238 SS124 := by
  refine zGM_of zpnX7 rfl (Nat.le_of_ble_eq_true rfl) (fun g => ?_)
  show zg g 1 mX7_init TT232 0 [some (.ref 116)] [] TT232 SS121 none TT238 SS124
  refine z_aload_n dX7_init_0 rfl ?_
  refine z_objInit (by decide) zoX7_3 zoi_inst zoi_code (by decide) (Nat.le_of_ble_eq_true rfl) dX7_init_1 ?_
  refine z_aload_n dX7_init_4 rfl ?_
  refine z_bipush (r := 60) dX7_init_5 (by decide) ?_
  refine z_newA (at0 := .int) (ty := .int) (kd := 20) (N := 60) rfl zac_int (Or.inl ⟨rfl, rfl⟩) (by decide) (by decide) (by decide) (by decide +kernel) (by decide +kernel) (by decide +kernel) dX7_init_7 ?_
  refine z_tT (X := TT233) rfl ?_
  refine z_tS (X := SS122) rfl ?_
  refine z_tr (b := 117) (by decide +kernel) ?_
  refine z_putR zfX7_9 (Or.inr ⟨_, rfl⟩) (fun _ => rfl) ⟨by decide +kernel, by decide +kernel⟩ dX7_init_9 ?_
  refine z_tT (X := TT234) rfl ?_
  refine z_aload_n dX7_init_12 rfl ?_
  refine z_bipush (r := 60) dX7_init_13 (by decide) ?_
  refine z_newA (at0 := .int) (ty := .int) (kd := 20) (N := 60) rfl zac_int (Or.inl ⟨rfl, rfl⟩) (by decide) (by decide) (by decide) (by decide +kernel) (by decide +kernel) (by decide +kernel) dX7_init_15 ?_
  refine z_tT (X := TT235) rfl ?_
  refine z_tS (X := SS123) rfl ?_
  refine z_tr (b := 118) (by decide +kernel) ?_
  refine z_putR zfX7_15 (Or.inr ⟨_, rfl⟩) (fun _ => rfl) ⟨by decide +kernel, by decide +kernel⟩ dX7_init_17 ?_
  refine z_tT (X := TT236) rfl ?_
  refine z_aload_n dX7_init_20 rfl ?_
  refine z_bipush (r := 60) dX7_init_21 (by decide) ?_
  refine z_newA (at0 := .int) (ty := .int) (kd := 20) (N := 60) rfl zac_int (Or.inl ⟨rfl, rfl⟩) (by decide) (by decide) (by decide) (by decide +kernel) (by decide +kernel) (by decide +kernel) dX7_init_23 ?_
  refine z_tT (X := TT237) rfl ?_
  refine z_tS (X := SS124) rfl ?_
  refine z_tr (b := 119) (by decide +kernel) ?_
  refine z_putR zfX7_18 (Or.inr ⟨_, rfl⟩) (fun _ => rfl) ⟨by decide +kernel, by decide +kernel⟩ dX7_init_25 ?_
  refine z_tT (X := TT238) rfl ?_
  exact z_vret rfl dX7_init_28
def TT239 : zT := zQ TT238 77 1 116
def TT240 : zT := zNT TT239 0 0 15
noncomputable def SS125 : zS := zNS TT239 SS124
def TT241 : zT := zNT TT240 20 8 8
noncomputable def SS126 : zS := zNS TT240 SS125
def TT242 : zT := zQ TT241 120 6 121
def TT243 : zT := zNT TT242 20 8 8
noncomputable def SS127 : zS := zNS TT242 SS126
def TT244 : zT := zQ TT243 120 7 122
def TT245 : zT := zNT TT244 20 8 8
noncomputable def SS128 : zS := zNS TT244 SS127
def TT246 : zT := zQ TT245 120 8 123
def TT247 : zT := zNT TT246 20 8 8
noncomputable def SS129 : zS := zNS TT246 SS128
def TT248 : zT := zQ TT247 120 9 124
def TT249 : zT := zNT TT248 20 8 8
noncomputable def SS130 : zS := zNS TT248 SS129
def TT250 : zT := zQ TT249 120 10 125
def TT251 : zT := zNT TT250 20 8 8
noncomputable def SS131 : zS := zNS TT250 SS130
def TT252 : zT := zQ TT251 120 11 126
def TT253 : zT := zNT TT252 1 0 4
noncomputable def SS132 : zS := zNS TT252 SS131
def TT254 : zT := zNT TT253 20 24 24
noncomputable def SS133 : zS := zNS TT253 SS132
def TT255 : zT := zQ TT254 127 0 128
def TT256 : zT := zNT TT255 20 24 24
noncomputable def SS134 : zS := zNS TT255 SS133
def TT257 : zT := zQ TT256 127 1 129
def TT258 : zT := zNT TT257 20 24 24
noncomputable def SS135 : zS := zNS TT257 SS134
def TT259 : zT := zQ TT258 127 2 130
set_option maxHeartbeats 4000000 in
set_option maxRecDepth 100000 in
theorem ck37 : zGM 1 mX1_init [.ref 127] TT253 SS132 none TT259 SS135 := by
  refine zGM_of zpnX1 rfl (Nat.le_of_ble_eq_true rfl) (fun g => ?_)
  show zg g 1 mX1_init TT253 0 [some (.ref 127)] [] TT253 SS132 none TT259 SS135
  refine z_aload_n dX1_init_0 rfl ?_
  refine z_objInit (by decide) zoX1_3 zoi_inst zoi_code (by decide) (Nat.le_of_ble_eq_true rfl) dX1_init_1 ?_
  refine z_aload_n dX1_init_4 rfl ?_
  refine z_bipush (r := 24) dX1_init_5 (by decide) ?_
  refine z_newA (at0 := .int) (ty := .int) (kd := 20) (N := 24) rfl zac_int (Or.inl ⟨rfl, rfl⟩) (by decide) (by decide) (by decide) (by decide +kernel) (by decide +kernel) (by decide +kernel) dX1_init_7 ?_
  refine z_tT (X := TT254) rfl ?_
  refine z_tS (X := SS133) rfl ?_
  refine z_tr (b := 128) (by decide +kernel) ?_
  refine z_putR zfX1_9 (Or.inr ⟨_, rfl⟩) (fun _ => rfl) ⟨by decide +kernel, by decide +kernel⟩ dX1_init_9 ?_
  refine z_tT (X := TT255) rfl ?_
  refine z_aload_n dX1_init_12 rfl ?_
  refine z_bipush (r := 24) dX1_init_13 (by decide) ?_
  refine z_newA (at0 := .int) (ty := .int) (kd := 20) (N := 24) rfl zac_int (Or.inl ⟨rfl, rfl⟩) (by decide) (by decide) (by decide) (by decide +kernel) (by decide +kernel) (by decide +kernel) dX1_init_15 ?_
  refine z_tT (X := TT256) rfl ?_
  refine z_tS (X := SS134) rfl ?_
  refine z_tr (b := 129) (by decide +kernel) ?_
  refine z_putR zfX1_15 (Or.inr ⟨_, rfl⟩) (fun _ => rfl) ⟨by decide +kernel, by decide +kernel⟩ dX1_init_17 ?_
  refine z_tT (X := TT257) rfl ?_
  refine z_aload_n dX1_init_20 rfl ?_
  refine z_bipush (r := 24) dX1_init_21 (by decide) ?_
  refine z_newA (at0 := .int) (ty := .int) (kd := 20) (N := 24) rfl zac_int (Or.inl ⟨rfl, rfl⟩) (by decide) (by decide) (by decide) (by decide +kernel) (by decide +kernel) (by decide +kernel) dX1_init_23 ?_
  refine z_tT (X := TT258) rfl ?_
  refine z_tS (X := SS135) rfl ?_
  refine z_tr (b := 130) (by decide +kernel) ?_
  refine z_putR zfX1_18 (Or.inr ⟨_, rfl⟩) (fun _ => rfl) ⟨by decide +kernel, by decide +kernel⟩ dX1_init_25 ?_
  refine z_tT (X := TT259) rfl ?_
  exact z_vret rfl dX1_init_28
def TT260 : zT := zQ TT259 120 12 127
def TT261 : zT := zNT TT260 1 0 4
noncomputable def SS136 : zS := zNS TT260 SS135
def TT262 : zT := zNT TT261 20 24 24
noncomputable def SS137 : zS := zNS TT261 SS136
def TT263 : zT := zQ TT262 131 0 132
def TT264 : zT := zNT TT263 20 24 24
noncomputable def SS138 : zS := zNS TT263 SS137
def TT265 : zT := zQ TT264 131 1 133
def TT266 : zT := zNT TT265 20 24 24
noncomputable def SS139 : zS := zNS TT265 SS138
def TT267 : zT := zQ TT266 131 2 134
set_option maxHeartbeats 4000000 in
set_option maxRecDepth 100000 in
theorem ck38 : zGM 1 mX1_init [.ref 131] TT261 SS136 none TT267 SS139 := by
  refine zGM_of zpnX1 rfl (Nat.le_of_ble_eq_true rfl) (fun g => ?_)
  show zg g 1 mX1_init TT261 0 [some (.ref 131)] [] TT261 SS136 none TT267 SS139
  refine z_aload_n dX1_init_0 rfl ?_
  refine z_objInit (by decide) zoX1_3 zoi_inst zoi_code (by decide) (Nat.le_of_ble_eq_true rfl) dX1_init_1 ?_
  refine z_aload_n dX1_init_4 rfl ?_
  refine z_bipush (r := 24) dX1_init_5 (by decide) ?_
  refine z_newA (at0 := .int) (ty := .int) (kd := 20) (N := 24) rfl zac_int (Or.inl ⟨rfl, rfl⟩) (by decide) (by decide) (by decide) (by decide +kernel) (by decide +kernel) (by decide +kernel) dX1_init_7 ?_
  refine z_tT (X := TT262) rfl ?_
  refine z_tS (X := SS137) rfl ?_
  refine z_tr (b := 132) (by decide +kernel) ?_
  refine z_putR zfX1_9 (Or.inr ⟨_, rfl⟩) (fun _ => rfl) ⟨by decide +kernel, by decide +kernel⟩ dX1_init_9 ?_
  refine z_tT (X := TT263) rfl ?_
  refine z_aload_n dX1_init_12 rfl ?_
  refine z_bipush (r := 24) dX1_init_13 (by decide) ?_
  refine z_newA (at0 := .int) (ty := .int) (kd := 20) (N := 24) rfl zac_int (Or.inl ⟨rfl, rfl⟩) (by decide) (by decide) (by decide) (by decide +kernel) (by decide +kernel) (by decide +kernel) dX1_init_15 ?_
  refine z_tT (X := TT264) rfl ?_
  refine z_tS (X := SS138) rfl ?_
  refine z_tr (b := 133) (by decide +kernel) ?_
  refine z_putR zfX1_15 (Or.inr ⟨_, rfl⟩) (fun _ => rfl) ⟨by decide +kernel, by decide +kernel⟩ dX1_init_17 ?_
  refine z_tT (X := TT265) rfl ?_
  refine z_aload_n dX1_init_20 rfl ?_
  refine z_bipush (r := 24) dX1_init_21 (by decide) ?_
  refine z_newA (at0 := .int) (ty := .int) (kd := 20) (N := 24) rfl zac_int (Or.inl ⟨rfl, rfl⟩) (by decide) (by decide) (by decide) (by decide +kernel) (by decide +kernel) (by decide +kernel) dX1_init_23 ?_
  refine z_tT (X := TT266) rfl ?_
  refine z_tS (X := SS139) rfl ?_
  refine z_tr (b := 134) (by decide +kernel) ?_
  refine z_putR zfX1_18 (Or.inr ⟨_, rfl⟩) (fun _ => rfl) ⟨by decide +kernel, by decide +kernel⟩ dX1_init_25 ?_
  refine z_tT (X := TT267) rfl ?_
  exact z_vret rfl dX1_init_28
def TT268 : zT := zQ TT267 120 13 131
def TT269 : zT := zNT TT268 2 0 3
noncomputable def SS140 : zS := zNS TT268 SS139
def TT270 : zT := zNT TT269 20 512 512
noncomputable def SS141 : zS := zNS TT269 SS140
def TT271 : zT := zQ TT270 135 0 136
set_option maxHeartbeats 4000000 in
set_option maxRecDepth 100000 in
theorem ck39 : zGM 1 mX2_init [.ref 135] TT269 SS140 none TT271 SS141 := by
  refine zGM_of zpnX2 rfl (Nat.le_of_ble_eq_true rfl) (fun g => ?_)
  show zg g 1 mX2_init TT269 0 [some (.ref 135)] [] TT269 SS140 none TT271 SS141
  refine z_aload_n dX2_init_0 rfl ?_
  refine z_objInit (by decide) zoX2_3 zoi_inst zoi_code (by decide) (Nat.le_of_ble_eq_true rfl) dX2_init_1 ?_
  refine z_aload_n dX2_init_4 rfl ?_
  refine z_sipush (r := 512) dX2_init_5 (by decide) ?_
  refine z_newA (at0 := .int) (ty := .int) (kd := 20) (N := 512) rfl zac_int (Or.inl ⟨rfl, rfl⟩) (by decide) (by decide) (by decide) (by decide +kernel) (by decide +kernel) (by decide +kernel) dX2_init_8 ?_
  refine z_tT (X := TT270) rfl ?_
  refine z_tS (X := SS141) rfl ?_
  refine z_tr (b := 136) (by decide +kernel) ?_
  refine z_putR zfX2_9 (Or.inr ⟨_, rfl⟩) (fun _ => rfl) ⟨by decide +kernel, by decide +kernel⟩ dX2_init_10 ?_
  refine z_tT (X := TT271) rfl ?_
  exact z_vret rfl dX2_init_13
def TT272 : zT := zQ TT271 120 14 135
theorem fx40 : iX0 TT272 120 := ⟨⟨by decide +kernel, by decide +kernel⟩, ⟨by decide +kernel, by decide +kernel, by decide +kernel⟩, ⟨by decide +kernel, by decide +kernel, by decide +kernel⟩, ⟨by decide +kernel, by decide +kernel, by decide +kernel⟩, ⟨by decide +kernel, by decide +kernel, by decide +kernel⟩, ⟨by decide +kernel, by decide +kernel, by decide +kernel⟩, ⟨by decide +kernel, by decide +kernel, by decide +kernel⟩, ⟨⟨by decide +kernel, by decide +kernel⟩, ⟨by decide +kernel, by decide +kernel, by decide +kernel⟩, ⟨by decide +kernel, by decide +kernel, by decide +kernel⟩, ⟨by decide +kernel, by decide +kernel, by decide +kernel⟩⟩, ⟨⟨by decide +kernel, by decide +kernel⟩, ⟨by decide +kernel, by decide +kernel, by decide +kernel⟩, ⟨by decide +kernel, by decide +kernel, by decide +kernel⟩, ⟨by decide +kernel, by decide +kernel, by decide +kernel⟩⟩, ⟨⟨by decide +kernel, by decide +kernel⟩, ⟨by decide +kernel, by decide +kernel, by decide +kernel⟩⟩⟩
noncomputable def SS142 : zS := (match fX0_clear TT272 120 SS141 with | some r => r.2 | none => SS141)
set_option maxHeartbeats 4000000 in
set_option maxRecDepth 100000 in
theorem ck41 : zGM 2 mX0_init [.ref 120] TT240 SS125 none TT272 SS142 := by
  refine zGM_of zpnX0 rfl (Nat.le_of_ble_eq_true rfl) (fun g => ?_)
  show zg g 2 mX0_init TT240 0 [some (.ref 120)] [] TT240 SS125 none TT272 SS142
  refine z_aload_n dX0_init_0 rfl ?_
  refine z_objInit (by decide) zoX0_3 zoi_inst zoi_code (by decide) (Nat.le_of_ble_eq_true rfl) dX0_init_1 ?_
  refine z_aload_n dX0_init_4 rfl ?_
  refine z_bipush (r := 8) dX0_init_5 (by decide) ?_
  refine z_newA (at0 := .int) (ty := .int) (kd := 20) (N := 8) rfl zac_int (Or.inl ⟨rfl, rfl⟩) (by decide) (by decide) (by decide) (by decide +kernel) (by decide +kernel) (by decide +kernel) dX0_init_7 ?_
  refine z_tT (X := TT241) rfl ?_
  refine z_tS (X := SS126) rfl ?_
  refine z_tr (b := 121) (by decide +kernel) ?_
  refine z_putR zfX0_9 (Or.inr ⟨_, rfl⟩) (fun _ => rfl) ⟨by decide +kernel, by decide +kernel⟩ dX0_init_9 ?_
  refine z_tT (X := TT242) rfl ?_
  refine z_aload_n dX0_init_12 rfl ?_
  refine z_bipush (r := 8) dX0_init_13 (by decide) ?_
  refine z_newA (at0 := .int) (ty := .int) (kd := 20) (N := 8) rfl zac_int (Or.inl ⟨rfl, rfl⟩) (by decide) (by decide) (by decide) (by decide +kernel) (by decide +kernel) (by decide +kernel) dX0_init_15 ?_
  refine z_tT (X := TT243) rfl ?_
  refine z_tS (X := SS127) rfl ?_
  refine z_tr (b := 122) (by decide +kernel) ?_
  refine z_putR zfX0_15 (Or.inr ⟨_, rfl⟩) (fun _ => rfl) ⟨by decide +kernel, by decide +kernel⟩ dX0_init_17 ?_
  refine z_tT (X := TT244) rfl ?_
  refine z_aload_n dX0_init_20 rfl ?_
  refine z_bipush (r := 8) dX0_init_21 (by decide) ?_
  refine z_newA (at0 := .int) (ty := .int) (kd := 20) (N := 8) rfl zac_int (Or.inl ⟨rfl, rfl⟩) (by decide) (by decide) (by decide) (by decide +kernel) (by decide +kernel) (by decide +kernel) dX0_init_23 ?_
  refine z_tT (X := TT245) rfl ?_
  refine z_tS (X := SS128) rfl ?_
  refine z_tr (b := 123) (by decide +kernel) ?_
  refine z_putR zfX0_18 (Or.inr ⟨_, rfl⟩) (fun _ => rfl) ⟨by decide +kernel, by decide +kernel⟩ dX0_init_25 ?_
  refine z_tT (X := TT246) rfl ?_
  refine z_aload_n dX0_init_28 rfl ?_
  refine z_bipush (r := 8) dX0_init_29 (by decide) ?_
  refine z_newA (at0 := .int) (ty := .int) (kd := 20) (N := 8) rfl zac_int (Or.inl ⟨rfl, rfl⟩) (by decide) (by decide) (by decide) (by decide +kernel) (by decide +kernel) (by decide +kernel) dX0_init_31 ?_
  refine z_tT (X := TT247) rfl ?_
  refine z_tS (X := SS129) rfl ?_
  refine z_tr (b := 124) (by decide +kernel) ?_
  refine z_putR zfX0_21 (Or.inr ⟨_, rfl⟩) (fun _ => rfl) ⟨by decide +kernel, by decide +kernel⟩ dX0_init_33 ?_
  refine z_tT (X := TT248) rfl ?_
  refine z_aload_n dX0_init_36 rfl ?_
  refine z_bipush (r := 8) dX0_init_37 (by decide) ?_
  refine z_newA (at0 := .int) (ty := .int) (kd := 20) (N := 8) rfl zac_int (Or.inl ⟨rfl, rfl⟩) (by decide) (by decide) (by decide) (by decide +kernel) (by decide +kernel) (by decide +kernel) dX0_init_39 ?_
  refine z_tT (X := TT249) rfl ?_
  refine z_tS (X := SS130) rfl ?_
  refine z_tr (b := 125) (by decide +kernel) ?_
  refine z_putR zfX0_24 (Or.inr ⟨_, rfl⟩) (fun _ => rfl) ⟨by decide +kernel, by decide +kernel⟩ dX0_init_41 ?_
  refine z_tT (X := TT250) rfl ?_
  refine z_aload_n dX0_init_44 rfl ?_
  refine z_bipush (r := 8) dX0_init_45 (by decide) ?_
  refine z_newA (at0 := .int) (ty := .int) (kd := 20) (N := 8) rfl zac_int (Or.inl ⟨rfl, rfl⟩) (by decide) (by decide) (by decide) (by decide +kernel) (by decide +kernel) (by decide +kernel) dX0_init_47 ?_
  refine z_tT (X := TT251) rfl ?_
  refine z_tS (X := SS131) rfl ?_
  refine z_tr (b := 126) (by decide +kernel) ?_
  refine z_putR zfX0_27 (Or.inr ⟨_, rfl⟩) (fun _ => rfl) ⟨by decide +kernel, by decide +kernel⟩ dX0_init_49 ?_
  refine z_tT (X := TT252) rfl ?_
  refine z_aload_n dX0_init_52 rfl ?_
  refine z_new zcX1 zdfX1 zwX0_30 zvX1 zjX1 (by decide +kernel) (by decide +kernel) (by decide +kernel) dX0_init_53 ?_
  refine z_tT (X := TT253) rfl ?_
  refine z_tS (X := SS132) rfl ?_
  refine z_tr (b := 127) (by decide +kernel) ?_
  refine z_dup dX0_init_56 rfl ?_
  refine z_callI (ci := 1) (As := []) rfl rfl zkX0_32 ziX1_init ⟨by decide +kernel, by decide +kernel⟩ ck37 rfl rfl (Nat.le_of_ble_eq_true rfl) (by decide) ⟨(by decide +kernel), (by decide +kernel)⟩ ⟨(by decide +kernel), (by decide +kernel)⟩ dX0_init_57 ?_
  refine z_putR zfX0_33 (Or.inl ⟨_, rfl⟩) (fun _ => rfl) ⟨by decide +kernel, by decide +kernel⟩ dX0_init_60 ?_
  refine z_tT (X := TT260) rfl ?_
  refine z_aload_n dX0_init_63 rfl ?_
  refine z_new zcX1 zdfX1 zwX0_30 zvX1 zjX1 (by decide +kernel) (by decide +kernel) (by decide +kernel) dX0_init_64 ?_
  refine z_tT (X := TT261) rfl ?_
  refine z_tS (X := SS136) rfl ?_
  refine z_tr (b := 131) (by decide +kernel) ?_
  refine z_dup dX0_init_67 rfl ?_
  refine z_callI (ci := 1) (As := []) rfl rfl zkX0_32 ziX1_init ⟨by decide +kernel, by decide +kernel⟩ ck38 rfl rfl (Nat.le_of_ble_eq_true rfl) (by decide) ⟨(by decide +kernel), (by decide +kernel)⟩ ⟨(by decide +kernel), (by decide +kernel)⟩ dX0_init_68 ?_
  refine z_putR zfX0_37 (Or.inl ⟨_, rfl⟩) (fun _ => rfl) ⟨by decide +kernel, by decide +kernel⟩ dX0_init_71 ?_
  refine z_tT (X := TT268) rfl ?_
  refine z_aload_n dX0_init_74 rfl ?_
  refine z_new zcX2 zdfX2 zwX0_40 zvX2 zjX2 (by decide +kernel) (by decide +kernel) (by decide +kernel) dX0_init_75 ?_
  refine z_tT (X := TT269) rfl ?_
  refine z_tS (X := SS140) rfl ?_
  refine z_tr (b := 135) (by decide +kernel) ?_
  refine z_dup dX0_init_78 rfl ?_
  refine z_callI (ci := 2) (As := []) rfl rfl zkX0_42 ziX2_init ⟨by decide +kernel, by decide +kernel⟩ ck39 rfl rfl (Nat.le_of_ble_eq_true rfl) (by decide) ⟨(by decide +kernel), (by decide +kernel)⟩ ⟨(by decide +kernel), (by decide +kernel)⟩ dX0_init_79 ?_
  refine z_putR zfX0_43 (Or.inl ⟨_, rfl⟩) (fun _ => rfl) ⟨by decide +kernel, by decide +kernel⟩ dX0_init_82 ?_
  refine z_tT (X := TT272) rfl ?_
  refine z_aload_n dX0_init_85 rfl ?_
  refine z_callV (As := []) zcX0 zkX0_47 ziX0_clear zqX0_clear ⟨by decide +kernel, by decide +kernel⟩ (tX0_clear TT272 120 SS141 fx40 ((), SS142) rfl) rfl rfl (Nat.le_of_ble_eq_true rfl) (by decide) ⟨Nat.le_refl _, Nat.le_refl _⟩ ⟨(by decide +kernel), (by decide +kernel)⟩ dX0_init_86 ?_
  exact z_vret rfl dX0_init_89
def TT273 : zT := zQ TT272 76 2 120
def TT274 : zT := zNT TT273 7 0 4
noncomputable def SS143 : zS := zNS TT273 SS142
def TT275 : zT := zNT TT274 20 60 60
noncomputable def SS144 : zS := zNS TT274 SS143
def TT276 : zT := zQ TT275 137 0 138
def TT277 : zT := zNT TT276 20 60 60
noncomputable def SS145 : zS := zNS TT276 SS144
def TT278 : zT := zQ TT277 137 1 139
def TT279 : zT := zNT TT278 20 60 60
noncomputable def SS146 : zS := zNS TT278 SS145
def TT280 : zT := zQ TT279 137 2 140
set_option maxHeartbeats 4000000 in
set_option maxRecDepth 100000 in
theorem ck42 : zGM 1 mX7_init [.ref 137] TT274 SS143 none TT280 SS146 := by
  refine zGM_of zpnX7 rfl (Nat.le_of_ble_eq_true rfl) (fun g => ?_)
  show zg g 1 mX7_init TT274 0 [some (.ref 137)] [] TT274 SS143 none TT280 SS146
  refine z_aload_n dX7_init_0 rfl ?_
  refine z_objInit (by decide) zoX7_3 zoi_inst zoi_code (by decide) (Nat.le_of_ble_eq_true rfl) dX7_init_1 ?_
  refine z_aload_n dX7_init_4 rfl ?_
  refine z_bipush (r := 60) dX7_init_5 (by decide) ?_
  refine z_newA (at0 := .int) (ty := .int) (kd := 20) (N := 60) rfl zac_int (Or.inl ⟨rfl, rfl⟩) (by decide) (by decide) (by decide) (by decide +kernel) (by decide +kernel) (by decide +kernel) dX7_init_7 ?_
  refine z_tT (X := TT275) rfl ?_
  refine z_tS (X := SS144) rfl ?_
  refine z_tr (b := 138) (by decide +kernel) ?_
  refine z_putR zfX7_9 (Or.inr ⟨_, rfl⟩) (fun _ => rfl) ⟨by decide +kernel, by decide +kernel⟩ dX7_init_9 ?_
  refine z_tT (X := TT276) rfl ?_
  refine z_aload_n dX7_init_12 rfl ?_
  refine z_bipush (r := 60) dX7_init_13 (by decide) ?_
  refine z_newA (at0 := .int) (ty := .int) (kd := 20) (N := 60) rfl zac_int (Or.inl ⟨rfl, rfl⟩) (by decide) (by decide) (by decide) (by decide +kernel) (by decide +kernel) (by decide +kernel) dX7_init_15 ?_
  refine z_tT (X := TT277) rfl ?_
  refine z_tS (X := SS145) rfl ?_
  refine z_tr (b := 139) (by decide +kernel) ?_
  refine z_putR zfX7_15 (Or.inr ⟨_, rfl⟩) (fun _ => rfl) ⟨by decide +kernel, by decide +kernel⟩ dX7_init_17 ?_
  refine z_tT (X := TT278) rfl ?_
  refine z_aload_n dX7_init_20 rfl ?_
  refine z_bipush (r := 60) dX7_init_21 (by decide) ?_
  refine z_newA (at0 := .int) (ty := .int) (kd := 20) (N := 60) rfl zac_int (Or.inl ⟨rfl, rfl⟩) (by decide) (by decide) (by decide) (by decide +kernel) (by decide +kernel) (by decide +kernel) dX7_init_23 ?_
  refine z_tT (X := TT279) rfl ?_
  refine z_tS (X := SS146) rfl ?_
  refine z_tr (b := 140) (by decide +kernel) ?_
  refine z_putR zfX7_18 (Or.inr ⟨_, rfl⟩) (fun _ => rfl) ⟨by decide +kernel, by decide +kernel⟩ dX7_init_25 ?_
  refine z_tT (X := TT280) rfl ?_
  exact z_vret rfl dX7_init_28
def TT281 : zT := zQ TT280 77 2 137
def TT282 : zT := zNT TT281 0 0 15
noncomputable def SS147 : zS := zNS TT281 SS146
def TT283 : zT := zNT TT282 20 8 8
noncomputable def SS148 : zS := zNS TT282 SS147
def TT284 : zT := zQ TT283 141 6 142
def TT285 : zT := zNT TT284 20 8 8
noncomputable def SS149 : zS := zNS TT284 SS148
def TT286 : zT := zQ TT285 141 7 143
def TT287 : zT := zNT TT286 20 8 8
noncomputable def SS150 : zS := zNS TT286 SS149
def TT288 : zT := zQ TT287 141 8 144
def TT289 : zT := zNT TT288 20 8 8
noncomputable def SS151 : zS := zNS TT288 SS150
def TT290 : zT := zQ TT289 141 9 145
def TT291 : zT := zNT TT290 20 8 8
noncomputable def SS152 : zS := zNS TT290 SS151
def TT292 : zT := zQ TT291 141 10 146
def TT293 : zT := zNT TT292 20 8 8
noncomputable def SS153 : zS := zNS TT292 SS152
def TT294 : zT := zQ TT293 141 11 147
def TT295 : zT := zNT TT294 1 0 4
noncomputable def SS154 : zS := zNS TT294 SS153
def TT296 : zT := zNT TT295 20 24 24
noncomputable def SS155 : zS := zNS TT295 SS154
def TT297 : zT := zQ TT296 148 0 149
def TT298 : zT := zNT TT297 20 24 24
noncomputable def SS156 : zS := zNS TT297 SS155
def TT299 : zT := zQ TT298 148 1 150
def TT300 : zT := zNT TT299 20 24 24
noncomputable def SS157 : zS := zNS TT299 SS156
def TT301 : zT := zQ TT300 148 2 151
set_option maxHeartbeats 4000000 in
set_option maxRecDepth 100000 in
theorem ck43 : zGM 1 mX1_init [.ref 148] TT295 SS154 none TT301 SS157 := by
  refine zGM_of zpnX1 rfl (Nat.le_of_ble_eq_true rfl) (fun g => ?_)
  show zg g 1 mX1_init TT295 0 [some (.ref 148)] [] TT295 SS154 none TT301 SS157
  refine z_aload_n dX1_init_0 rfl ?_
  refine z_objInit (by decide) zoX1_3 zoi_inst zoi_code (by decide) (Nat.le_of_ble_eq_true rfl) dX1_init_1 ?_
  refine z_aload_n dX1_init_4 rfl ?_
  refine z_bipush (r := 24) dX1_init_5 (by decide) ?_
  refine z_newA (at0 := .int) (ty := .int) (kd := 20) (N := 24) rfl zac_int (Or.inl ⟨rfl, rfl⟩) (by decide) (by decide) (by decide) (by decide +kernel) (by decide +kernel) (by decide +kernel) dX1_init_7 ?_
  refine z_tT (X := TT296) rfl ?_
  refine z_tS (X := SS155) rfl ?_
  refine z_tr (b := 149) (by decide +kernel) ?_
  refine z_putR zfX1_9 (Or.inr ⟨_, rfl⟩) (fun _ => rfl) ⟨by decide +kernel, by decide +kernel⟩ dX1_init_9 ?_
  refine z_tT (X := TT297) rfl ?_
  refine z_aload_n dX1_init_12 rfl ?_
  refine z_bipush (r := 24) dX1_init_13 (by decide) ?_
  refine z_newA (at0 := .int) (ty := .int) (kd := 20) (N := 24) rfl zac_int (Or.inl ⟨rfl, rfl⟩) (by decide) (by decide) (by decide) (by decide +kernel) (by decide +kernel) (by decide +kernel) dX1_init_15 ?_
  refine z_tT (X := TT298) rfl ?_
  refine z_tS (X := SS156) rfl ?_
  refine z_tr (b := 150) (by decide +kernel) ?_
  refine z_putR zfX1_15 (Or.inr ⟨_, rfl⟩) (fun _ => rfl) ⟨by decide +kernel, by decide +kernel⟩ dX1_init_17 ?_
  refine z_tT (X := TT299) rfl ?_
  refine z_aload_n dX1_init_20 rfl ?_
  refine z_bipush (r := 24) dX1_init_21 (by decide) ?_
  refine z_newA (at0 := .int) (ty := .int) (kd := 20) (N := 24) rfl zac_int (Or.inl ⟨rfl, rfl⟩) (by decide) (by decide) (by decide) (by decide +kernel) (by decide +kernel) (by decide +kernel) dX1_init_23 ?_
  refine z_tT (X := TT300) rfl ?_
  refine z_tS (X := SS157) rfl ?_
  refine z_tr (b := 151) (by decide +kernel) ?_
  refine z_putR zfX1_18 (Or.inr ⟨_, rfl⟩) (fun _ => rfl) ⟨by decide +kernel, by decide +kernel⟩ dX1_init_25 ?_
  refine z_tT (X := TT301) rfl ?_
  exact z_vret rfl dX1_init_28
def TT302 : zT := zQ TT301 141 12 148
def TT303 : zT := zNT TT302 1 0 4
noncomputable def SS158 : zS := zNS TT302 SS157
def TT304 : zT := zNT TT303 20 24 24
noncomputable def SS159 : zS := zNS TT303 SS158
def TT305 : zT := zQ TT304 152 0 153
def TT306 : zT := zNT TT305 20 24 24
noncomputable def SS160 : zS := zNS TT305 SS159
def TT307 : zT := zQ TT306 152 1 154
def TT308 : zT := zNT TT307 20 24 24
noncomputable def SS161 : zS := zNS TT307 SS160
def TT309 : zT := zQ TT308 152 2 155
set_option maxHeartbeats 4000000 in
set_option maxRecDepth 100000 in
theorem ck44 : zGM 1 mX1_init [.ref 152] TT303 SS158 none TT309 SS161 := by
  refine zGM_of zpnX1 rfl (Nat.le_of_ble_eq_true rfl) (fun g => ?_)
  show zg g 1 mX1_init TT303 0 [some (.ref 152)] [] TT303 SS158 none TT309 SS161
  refine z_aload_n dX1_init_0 rfl ?_
  refine z_objInit (by decide) zoX1_3 zoi_inst zoi_code (by decide) (Nat.le_of_ble_eq_true rfl) dX1_init_1 ?_
  refine z_aload_n dX1_init_4 rfl ?_
  refine z_bipush (r := 24) dX1_init_5 (by decide) ?_
  refine z_newA (at0 := .int) (ty := .int) (kd := 20) (N := 24) rfl zac_int (Or.inl ⟨rfl, rfl⟩) (by decide) (by decide) (by decide) (by decide +kernel) (by decide +kernel) (by decide +kernel) dX1_init_7 ?_
  refine z_tT (X := TT304) rfl ?_
  refine z_tS (X := SS159) rfl ?_
  refine z_tr (b := 153) (by decide +kernel) ?_
  refine z_putR zfX1_9 (Or.inr ⟨_, rfl⟩) (fun _ => rfl) ⟨by decide +kernel, by decide +kernel⟩ dX1_init_9 ?_
  refine z_tT (X := TT305) rfl ?_
  refine z_aload_n dX1_init_12 rfl ?_
  refine z_bipush (r := 24) dX1_init_13 (by decide) ?_
  refine z_newA (at0 := .int) (ty := .int) (kd := 20) (N := 24) rfl zac_int (Or.inl ⟨rfl, rfl⟩) (by decide) (by decide) (by decide) (by decide +kernel) (by decide +kernel) (by decide +kernel) dX1_init_15 ?_
  refine z_tT (X := TT306) rfl ?_
  refine z_tS (X := SS160) rfl ?_
  refine z_tr (b := 154) (by decide +kernel) ?_
  refine z_putR zfX1_15 (Or.inr ⟨_, rfl⟩) (fun _ => rfl) ⟨by decide +kernel, by decide +kernel⟩ dX1_init_17 ?_
  refine z_tT (X := TT307) rfl ?_
  refine z_aload_n dX1_init_20 rfl ?_
  refine z_bipush (r := 24) dX1_init_21 (by decide) ?_
  refine z_newA (at0 := .int) (ty := .int) (kd := 20) (N := 24) rfl zac_int (Or.inl ⟨rfl, rfl⟩) (by decide) (by decide) (by decide) (by decide +kernel) (by decide +kernel) (by decide +kernel) dX1_init_23 ?_
  refine z_tT (X := TT308) rfl ?_
  refine z_tS (X := SS161) rfl ?_
  refine z_tr (b := 155) (by decide +kernel) ?_
  refine z_putR zfX1_18 (Or.inr ⟨_, rfl⟩) (fun _ => rfl) ⟨by decide +kernel, by decide +kernel⟩ dX1_init_25 ?_
  refine z_tT (X := TT309) rfl ?_
  exact z_vret rfl dX1_init_28
def TT310 : zT := zQ TT309 141 13 152
def TT311 : zT := zNT TT310 2 0 3
noncomputable def SS162 : zS := zNS TT310 SS161
def TT312 : zT := zNT TT311 20 512 512
noncomputable def SS163 : zS := zNS TT311 SS162
def TT313 : zT := zQ TT312 156 0 157
set_option maxHeartbeats 4000000 in
set_option maxRecDepth 100000 in
theorem ck45 : zGM 1 mX2_init [.ref 156] TT311 SS162 none TT313 SS163 := by
  refine zGM_of zpnX2 rfl (Nat.le_of_ble_eq_true rfl) (fun g => ?_)
  show zg g 1 mX2_init TT311 0 [some (.ref 156)] [] TT311 SS162 none TT313 SS163
  refine z_aload_n dX2_init_0 rfl ?_
  refine z_objInit (by decide) zoX2_3 zoi_inst zoi_code (by decide) (Nat.le_of_ble_eq_true rfl) dX2_init_1 ?_
  refine z_aload_n dX2_init_4 rfl ?_
  refine z_sipush (r := 512) dX2_init_5 (by decide) ?_
  refine z_newA (at0 := .int) (ty := .int) (kd := 20) (N := 512) rfl zac_int (Or.inl ⟨rfl, rfl⟩) (by decide) (by decide) (by decide) (by decide +kernel) (by decide +kernel) (by decide +kernel) dX2_init_8 ?_
  refine z_tT (X := TT312) rfl ?_
  refine z_tS (X := SS163) rfl ?_
  refine z_tr (b := 157) (by decide +kernel) ?_
  refine z_putR zfX2_9 (Or.inr ⟨_, rfl⟩) (fun _ => rfl) ⟨by decide +kernel, by decide +kernel⟩ dX2_init_10 ?_
  refine z_tT (X := TT313) rfl ?_
  exact z_vret rfl dX2_init_13
def TT314 : zT := zQ TT313 141 14 156
theorem fx46 : iX0 TT314 141 := ⟨⟨by decide +kernel, by decide +kernel⟩, ⟨by decide +kernel, by decide +kernel, by decide +kernel⟩, ⟨by decide +kernel, by decide +kernel, by decide +kernel⟩, ⟨by decide +kernel, by decide +kernel, by decide +kernel⟩, ⟨by decide +kernel, by decide +kernel, by decide +kernel⟩, ⟨by decide +kernel, by decide +kernel, by decide +kernel⟩, ⟨by decide +kernel, by decide +kernel, by decide +kernel⟩, ⟨⟨by decide +kernel, by decide +kernel⟩, ⟨by decide +kernel, by decide +kernel, by decide +kernel⟩, ⟨by decide +kernel, by decide +kernel, by decide +kernel⟩, ⟨by decide +kernel, by decide +kernel, by decide +kernel⟩⟩, ⟨⟨by decide +kernel, by decide +kernel⟩, ⟨by decide +kernel, by decide +kernel, by decide +kernel⟩, ⟨by decide +kernel, by decide +kernel, by decide +kernel⟩, ⟨by decide +kernel, by decide +kernel, by decide +kernel⟩⟩, ⟨⟨by decide +kernel, by decide +kernel⟩, ⟨by decide +kernel, by decide +kernel, by decide +kernel⟩⟩⟩
noncomputable def SS164 : zS := (match fX0_clear TT314 141 SS163 with | some r => r.2 | none => SS163)
set_option maxHeartbeats 4000000 in
set_option maxRecDepth 100000 in
theorem ck47 : zGM 2 mX0_init [.ref 141] TT282 SS147 none TT314 SS164 := by
  refine zGM_of zpnX0 rfl (Nat.le_of_ble_eq_true rfl) (fun g => ?_)
  show zg g 2 mX0_init TT282 0 [some (.ref 141)] [] TT282 SS147 none TT314 SS164
  refine z_aload_n dX0_init_0 rfl ?_
  refine z_objInit (by decide) zoX0_3 zoi_inst zoi_code (by decide) (Nat.le_of_ble_eq_true rfl) dX0_init_1 ?_
  refine z_aload_n dX0_init_4 rfl ?_
  refine z_bipush (r := 8) dX0_init_5 (by decide) ?_
  refine z_newA (at0 := .int) (ty := .int) (kd := 20) (N := 8) rfl zac_int (Or.inl ⟨rfl, rfl⟩) (by decide) (by decide) (by decide) (by decide +kernel) (by decide +kernel) (by decide +kernel) dX0_init_7 ?_
  refine z_tT (X := TT283) rfl ?_
  refine z_tS (X := SS148) rfl ?_
  refine z_tr (b := 142) (by decide +kernel) ?_
  refine z_putR zfX0_9 (Or.inr ⟨_, rfl⟩) (fun _ => rfl) ⟨by decide +kernel, by decide +kernel⟩ dX0_init_9 ?_
  refine z_tT (X := TT284) rfl ?_
  refine z_aload_n dX0_init_12 rfl ?_
  refine z_bipush (r := 8) dX0_init_13 (by decide) ?_
  refine z_newA (at0 := .int) (ty := .int) (kd := 20) (N := 8) rfl zac_int (Or.inl ⟨rfl, rfl⟩) (by decide) (by decide) (by decide) (by decide +kernel) (by decide +kernel) (by decide +kernel) dX0_init_15 ?_
  refine z_tT (X := TT285) rfl ?_
  refine z_tS (X := SS149) rfl ?_
  refine z_tr (b := 143) (by decide +kernel) ?_
  refine z_putR zfX0_15 (Or.inr ⟨_, rfl⟩) (fun _ => rfl) ⟨by decide +kernel, by decide +kernel⟩ dX0_init_17 ?_
  refine z_tT (X := TT286) rfl ?_
  refine z_aload_n dX0_init_20 rfl ?_
  refine z_bipush (r := 8) dX0_init_21 (by decide) ?_
  refine z_newA (at0 := .int) (ty := .int) (kd := 20) (N := 8) rfl zac_int (Or.inl ⟨rfl, rfl⟩) (by decide) (by decide) (by decide) (by decide +kernel) (by decide +kernel) (by decide +kernel) dX0_init_23 ?_
  refine z_tT (X := TT287) rfl ?_
  refine z_tS (X := SS150) rfl ?_
  refine z_tr (b := 144) (by decide +kernel) ?_
  refine z_putR zfX0_18 (Or.inr ⟨_, rfl⟩) (fun _ => rfl) ⟨by decide +kernel, by decide +kernel⟩ dX0_init_25 ?_
  refine z_tT (X := TT288) rfl ?_
  refine z_aload_n dX0_init_28 rfl ?_
  refine z_bipush (r := 8) dX0_init_29 (by decide) ?_
  refine z_newA (at0 := .int) (ty := .int) (kd := 20) (N := 8) rfl zac_int (Or.inl ⟨rfl, rfl⟩) (by decide) (by decide) (by decide) (by decide +kernel) (by decide +kernel) (by decide +kernel) dX0_init_31 ?_
  refine z_tT (X := TT289) rfl ?_
  refine z_tS (X := SS151) rfl ?_
  refine z_tr (b := 145) (by decide +kernel) ?_
  refine z_putR zfX0_21 (Or.inr ⟨_, rfl⟩) (fun _ => rfl) ⟨by decide +kernel, by decide +kernel⟩ dX0_init_33 ?_
  refine z_tT (X := TT290) rfl ?_
  refine z_aload_n dX0_init_36 rfl ?_
  refine z_bipush (r := 8) dX0_init_37 (by decide) ?_
  refine z_newA (at0 := .int) (ty := .int) (kd := 20) (N := 8) rfl zac_int (Or.inl ⟨rfl, rfl⟩) (by decide) (by decide) (by decide) (by decide +kernel) (by decide +kernel) (by decide +kernel) dX0_init_39 ?_
  refine z_tT (X := TT291) rfl ?_
  refine z_tS (X := SS152) rfl ?_
  refine z_tr (b := 146) (by decide +kernel) ?_
  refine z_putR zfX0_24 (Or.inr ⟨_, rfl⟩) (fun _ => rfl) ⟨by decide +kernel, by decide +kernel⟩ dX0_init_41 ?_
  refine z_tT (X := TT292) rfl ?_
  refine z_aload_n dX0_init_44 rfl ?_
  refine z_bipush (r := 8) dX0_init_45 (by decide) ?_
  refine z_newA (at0 := .int) (ty := .int) (kd := 20) (N := 8) rfl zac_int (Or.inl ⟨rfl, rfl⟩) (by decide) (by decide) (by decide) (by decide +kernel) (by decide +kernel) (by decide +kernel) dX0_init_47 ?_
  refine z_tT (X := TT293) rfl ?_
  refine z_tS (X := SS153) rfl ?_
  refine z_tr (b := 147) (by decide +kernel) ?_
  refine z_putR zfX0_27 (Or.inr ⟨_, rfl⟩) (fun _ => rfl) ⟨by decide +kernel, by decide +kernel⟩ dX0_init_49 ?_
  refine z_tT (X := TT294) rfl ?_
  refine z_aload_n dX0_init_52 rfl ?_
  refine z_new zcX1 zdfX1 zwX0_30 zvX1 zjX1 (by decide +kernel) (by decide +kernel) (by decide +kernel) dX0_init_53 ?_
  refine z_tT (X := TT295) rfl ?_
  refine z_tS (X := SS154) rfl ?_
  refine z_tr (b := 148) (by decide +kernel) ?_
  refine z_dup dX0_init_56 rfl ?_
  refine z_callI (ci := 1) (As := []) rfl rfl zkX0_32 ziX1_init ⟨by decide +kernel, by decide +kernel⟩ ck43 rfl rfl (Nat.le_of_ble_eq_true rfl) (by decide) ⟨(by decide +kernel), (by decide +kernel)⟩ ⟨(by decide +kernel), (by decide +kernel)⟩ dX0_init_57 ?_
  refine z_putR zfX0_33 (Or.inl ⟨_, rfl⟩) (fun _ => rfl) ⟨by decide +kernel, by decide +kernel⟩ dX0_init_60 ?_
  refine z_tT (X := TT302) rfl ?_
  refine z_aload_n dX0_init_63 rfl ?_
  refine z_new zcX1 zdfX1 zwX0_30 zvX1 zjX1 (by decide +kernel) (by decide +kernel) (by decide +kernel) dX0_init_64 ?_
  refine z_tT (X := TT303) rfl ?_
  refine z_tS (X := SS158) rfl ?_
  refine z_tr (b := 152) (by decide +kernel) ?_
  refine z_dup dX0_init_67 rfl ?_
  refine z_callI (ci := 1) (As := []) rfl rfl zkX0_32 ziX1_init ⟨by decide +kernel, by decide +kernel⟩ ck44 rfl rfl (Nat.le_of_ble_eq_true rfl) (by decide) ⟨(by decide +kernel), (by decide +kernel)⟩ ⟨(by decide +kernel), (by decide +kernel)⟩ dX0_init_68 ?_
  refine z_putR zfX0_37 (Or.inl ⟨_, rfl⟩) (fun _ => rfl) ⟨by decide +kernel, by decide +kernel⟩ dX0_init_71 ?_
  refine z_tT (X := TT310) rfl ?_
  refine z_aload_n dX0_init_74 rfl ?_
  refine z_new zcX2 zdfX2 zwX0_40 zvX2 zjX2 (by decide +kernel) (by decide +kernel) (by decide +kernel) dX0_init_75 ?_
  refine z_tT (X := TT311) rfl ?_
  refine z_tS (X := SS162) rfl ?_
  refine z_tr (b := 156) (by decide +kernel) ?_
  refine z_dup dX0_init_78 rfl ?_
  refine z_callI (ci := 2) (As := []) rfl rfl zkX0_42 ziX2_init ⟨by decide +kernel, by decide +kernel⟩ ck45 rfl rfl (Nat.le_of_ble_eq_true rfl) (by decide) ⟨(by decide +kernel), (by decide +kernel)⟩ ⟨(by decide +kernel), (by decide +kernel)⟩ dX0_init_79 ?_
  refine z_putR zfX0_43 (Or.inl ⟨_, rfl⟩) (fun _ => rfl) ⟨by decide +kernel, by decide +kernel⟩ dX0_init_82 ?_
  refine z_tT (X := TT314) rfl ?_
  refine z_aload_n dX0_init_85 rfl ?_
  refine z_callV (As := []) zcX0 zkX0_47 ziX0_clear zqX0_clear ⟨by decide +kernel, by decide +kernel⟩ (tX0_clear TT314 141 SS163 fx46 ((), SS164) rfl) rfl rfl (Nat.le_of_ble_eq_true rfl) (by decide) ⟨Nat.le_refl _, Nat.le_refl _⟩ ⟨(by decide +kernel), (by decide +kernel)⟩ dX0_init_86 ?_
  exact z_vret rfl dX0_init_89
def TT315 : zT := zQ TT314 76 3 141
def TT316 : zT := zNT TT315 7 0 4
noncomputable def SS165 : zS := zNS TT315 SS164
def TT317 : zT := zNT TT316 20 60 60
noncomputable def SS166 : zS := zNS TT316 SS165
def TT318 : zT := zQ TT317 158 0 159
def TT319 : zT := zNT TT318 20 60 60
noncomputable def SS167 : zS := zNS TT318 SS166
def TT320 : zT := zQ TT319 158 1 160
def TT321 : zT := zNT TT320 20 60 60
noncomputable def SS168 : zS := zNS TT320 SS167
def TT322 : zT := zQ TT321 158 2 161
set_option maxHeartbeats 4000000 in
set_option maxRecDepth 100000 in
theorem ck48 : zGM 1 mX7_init [.ref 158] TT316 SS165 none TT322 SS168 := by
  refine zGM_of zpnX7 rfl (Nat.le_of_ble_eq_true rfl) (fun g => ?_)
  show zg g 1 mX7_init TT316 0 [some (.ref 158)] [] TT316 SS165 none TT322 SS168
  refine z_aload_n dX7_init_0 rfl ?_
  refine z_objInit (by decide) zoX7_3 zoi_inst zoi_code (by decide) (Nat.le_of_ble_eq_true rfl) dX7_init_1 ?_
  refine z_aload_n dX7_init_4 rfl ?_
  refine z_bipush (r := 60) dX7_init_5 (by decide) ?_
  refine z_newA (at0 := .int) (ty := .int) (kd := 20) (N := 60) rfl zac_int (Or.inl ⟨rfl, rfl⟩) (by decide) (by decide) (by decide) (by decide +kernel) (by decide +kernel) (by decide +kernel) dX7_init_7 ?_
  refine z_tT (X := TT317) rfl ?_
  refine z_tS (X := SS166) rfl ?_
  refine z_tr (b := 159) (by decide +kernel) ?_
  refine z_putR zfX7_9 (Or.inr ⟨_, rfl⟩) (fun _ => rfl) ⟨by decide +kernel, by decide +kernel⟩ dX7_init_9 ?_
  refine z_tT (X := TT318) rfl ?_
  refine z_aload_n dX7_init_12 rfl ?_
  refine z_bipush (r := 60) dX7_init_13 (by decide) ?_
  refine z_newA (at0 := .int) (ty := .int) (kd := 20) (N := 60) rfl zac_int (Or.inl ⟨rfl, rfl⟩) (by decide) (by decide) (by decide) (by decide +kernel) (by decide +kernel) (by decide +kernel) dX7_init_15 ?_
  refine z_tT (X := TT319) rfl ?_
  refine z_tS (X := SS167) rfl ?_
  refine z_tr (b := 160) (by decide +kernel) ?_
  refine z_putR zfX7_15 (Or.inr ⟨_, rfl⟩) (fun _ => rfl) ⟨by decide +kernel, by decide +kernel⟩ dX7_init_17 ?_
  refine z_tT (X := TT320) rfl ?_
  refine z_aload_n dX7_init_20 rfl ?_
  refine z_bipush (r := 60) dX7_init_21 (by decide) ?_
  refine z_newA (at0 := .int) (ty := .int) (kd := 20) (N := 60) rfl zac_int (Or.inl ⟨rfl, rfl⟩) (by decide) (by decide) (by decide) (by decide +kernel) (by decide +kernel) (by decide +kernel) dX7_init_23 ?_
  refine z_tT (X := TT321) rfl ?_
  refine z_tS (X := SS168) rfl ?_
  refine z_tr (b := 161) (by decide +kernel) ?_
  refine z_putR zfX7_18 (Or.inr ⟨_, rfl⟩) (fun _ => rfl) ⟨by decide +kernel, by decide +kernel⟩ dX7_init_25 ?_
  refine z_tT (X := TT322) rfl ?_
  exact z_vret rfl dX7_init_28
def TT323 : zT := zQ TT322 77 3 158
def TT324 : zT := zNT TT323 22 4 4
noncomputable def SS169 : zS := zNS TT323 SS168
def TT325 : zT := zQ TT324 0 10 162
def TT326 : zT := zNT TT325 9 0 2
noncomputable def SS170 : zS := zNS TT325 SS169
def TT327 : zT := zNT TT326 21 26 26
noncomputable def SS171 : zS := zNS TT326 SS170
def TT328 : zT := zQ TT327 163 0 164
def TT329 : zT := zNT TT328 21 64 64
noncomputable def SS172 : zS := zNS TT328 SS171
def TT330 : zT := zQ TT329 163 1 165
set_option maxHeartbeats 4000000 in
set_option maxRecDepth 100000 in
theorem ck49 : zGM 1 mX9_init [.ref 163] TT326 SS170 none TT330 SS172 := by
  refine zGM_of zpnX9 rfl (Nat.le_of_ble_eq_true rfl) (fun g => ?_)
  show zg g 1 mX9_init TT326 0 [some (.ref 163)] [] TT326 SS170 none TT330 SS172
  refine z_aload_n dX9_init_0 rfl ?_
  refine z_objInit (by decide) zoX9_3 zoi_inst zoi_code (by decide) (Nat.le_of_ble_eq_true rfl) dX9_init_1 ?_
  refine z_aload_n dX9_init_4 rfl ?_
  refine z_bipush (r := 26) dX9_init_5 (by decide) ?_
  refine z_newA (at0 := .long) (ty := .long) (kd := 21) (N := 26) rfl zac_long (Or.inr (Or.inl ⟨rfl, rfl⟩)) (by decide) (by decide) (by decide) (by decide +kernel) (by decide +kernel) (by decide +kernel) dX9_init_7 ?_
  refine z_tT (X := TT327) rfl ?_
  refine z_tS (X := SS171) rfl ?_
  refine z_tr (b := 164) (by decide +kernel) ?_
  refine z_putR zfX9_9 (Or.inr ⟨_, rfl⟩) (fun _ => rfl) ⟨by decide +kernel, by decide +kernel⟩ dX9_init_9 ?_
  refine z_tT (X := TT328) rfl ?_
  refine z_aload_n dX9_init_12 rfl ?_
  refine z_bipush (r := 64) dX9_init_13 (by decide) ?_
  refine z_newA (at0 := .long) (ty := .long) (kd := 21) (N := 64) rfl zac_long (Or.inr (Or.inl ⟨rfl, rfl⟩)) (by decide) (by decide) (by decide) (by decide +kernel) (by decide +kernel) (by decide +kernel) dX9_init_15 ?_
  refine z_tT (X := TT329) rfl ?_
  refine z_tS (X := SS172) rfl ?_
  refine z_tr (b := 165) (by decide +kernel) ?_
  refine z_putR zfX9_15 (Or.inr ⟨_, rfl⟩) (fun _ => rfl) ⟨by decide +kernel, by decide +kernel⟩ dX9_init_17 ?_
  refine z_tT (X := TT330) rfl ?_
  exact z_vret rfl dX9_init_20
def TT331 : zT := zQ TT330 0 11 163
def TT332 : zT := zNT TT331 4 0 17
noncomputable def SS173 : zS := zNS TT331 SS172
def TT333 : zT := zQ TT332 166 0 7
def TT334 : zT := zQ TT333 166 1 163
def TT335 : zT := zNT TT334 9 0 2
noncomputable def SS174 : zS := zNS TT334 SS173
def TT336 : zT := zNT TT335 21 26 26
noncomputable def SS175 : zS := zNS TT335 SS174
def TT337 : zT := zQ TT336 167 0 168
def TT338 : zT := zNT TT337 21 64 64
noncomputable def SS176 : zS := zNS TT337 SS175
def TT339 : zT := zQ TT338 167 1 169
set_option maxHeartbeats 4000000 in
set_option maxRecDepth 100000 in
theorem ck50 : zGM 1 mX9_init [.ref 167] TT335 SS174 none TT339 SS176 := by
  refine zGM_of zpnX9 rfl (Nat.le_of_ble_eq_true rfl) (fun g => ?_)
  show zg g 1 mX9_init TT335 0 [some (.ref 167)] [] TT335 SS174 none TT339 SS176
  refine z_aload_n dX9_init_0 rfl ?_
  refine z_objInit (by decide) zoX9_3 zoi_inst zoi_code (by decide) (Nat.le_of_ble_eq_true rfl) dX9_init_1 ?_
  refine z_aload_n dX9_init_4 rfl ?_
  refine z_bipush (r := 26) dX9_init_5 (by decide) ?_
  refine z_newA (at0 := .long) (ty := .long) (kd := 21) (N := 26) rfl zac_long (Or.inr (Or.inl ⟨rfl, rfl⟩)) (by decide) (by decide) (by decide) (by decide +kernel) (by decide +kernel) (by decide +kernel) dX9_init_7 ?_
  refine z_tT (X := TT336) rfl ?_
  refine z_tS (X := SS175) rfl ?_
  refine z_tr (b := 168) (by decide +kernel) ?_
  refine z_putR zfX9_9 (Or.inr ⟨_, rfl⟩) (fun _ => rfl) ⟨by decide +kernel, by decide +kernel⟩ dX9_init_9 ?_
  refine z_tT (X := TT337) rfl ?_
  refine z_aload_n dX9_init_12 rfl ?_
  refine z_bipush (r := 64) dX9_init_13 (by decide) ?_
  refine z_newA (at0 := .long) (ty := .long) (kd := 21) (N := 64) rfl zac_long (Or.inr (Or.inl ⟨rfl, rfl⟩)) (by decide) (by decide) (by decide) (by decide +kernel) (by decide +kernel) (by decide +kernel) dX9_init_15 ?_
  refine z_tT (X := TT338) rfl ?_
  refine z_tS (X := SS176) rfl ?_
  refine z_tr (b := 169) (by decide +kernel) ?_
  refine z_putR zfX9_15 (Or.inr ⟨_, rfl⟩) (fun _ => rfl) ⟨by decide +kernel, by decide +kernel⟩ dX9_init_17 ?_
  refine z_tT (X := TT339) rfl ?_
  exact z_vret rfl dX9_init_20
def TT340 : zT := zQ TT339 166 2 167
def TT341 : zT := zNT TT340 20 60 60
noncomputable def SS177 : zS := zNS TT340 SS176
def TT342 : zT := zQ TT341 166 9 170
def TT343 : zT := zNT TT342 20 60 60
noncomputable def SS178 : zS := zNS TT342 SS177
def TT344 : zT := zQ TT343 166 10 171
def TT345 : zT := zNT TT344 20 8 8
noncomputable def SS179 : zS := zNS TT344 SS178
def TT346 : zT := zQ TT345 166 11 172
def TT347 : zT := zNT TT346 20 8 8
noncomputable def SS180 : zS := zNS TT346 SS179
def TT348 : zT := zQ TT347 166 12 173
def TT349 : zT := zNT TT348 20 8 8
noncomputable def SS181 : zS := zNS TT348 SS180
def TT350 : zT := zQ TT349 166 13 174
def TT351 : zT := zNT TT350 20 8 8
noncomputable def SS182 : zS := zNS TT350 SS181
def TT352 : zT := zQ TT351 166 14 175
set_option maxHeartbeats 4000000 in
set_option maxRecDepth 100000 in
theorem ck51 : zGM 2 mX4_init [.ref 166, .ref 7, .ref 163] TT332 SS173 none TT352 SS182 := by
  refine zGM_of zpnX4 rfl (Nat.le_of_ble_eq_true rfl) (fun g => ?_)
  show zg g 2 mX4_init TT332 0 [some (.ref 166), some (.ref 7), some (.ref 163)] [] TT332 SS173 none TT352 SS182
  refine z_aload_n dX4_init_0 rfl ?_
  refine z_objInit (by decide) zoX4_3 zoi_inst zoi_code (by decide) (Nat.le_of_ble_eq_true rfl) dX4_init_1 ?_
  refine z_aload_n dX4_init_4 rfl ?_
  refine z_aload_n dX4_init_5 rfl ?_
  refine z_putR zfX4_9 (Or.inl ⟨_, rfl⟩) (fun _ => rfl) ⟨by decide +kernel, by decide +kernel⟩ dX4_init_6 ?_
  refine z_tT (X := TT333) rfl ?_
  refine z_aload_n dX4_init_9 rfl ?_
  refine z_aload_n dX4_init_10 rfl ?_
  refine z_putR zfX4_15 (Or.inl ⟨_, rfl⟩) (fun _ => rfl) ⟨by decide +kernel, by decide +kernel⟩ dX4_init_11 ?_
  refine z_tT (X := TT334) rfl ?_
  refine z_aload_n dX4_init_14 rfl ?_
  refine z_new zcX9 zdfX9 zwX4_19 zvX9 zjX9 (by decide +kernel) (by decide +kernel) (by decide +kernel) dX4_init_15 ?_
  refine z_tT (X := TT335) rfl ?_
  refine z_tS (X := SS174) rfl ?_
  refine z_tr (b := 167) (by decide +kernel) ?_
  refine z_dup dX4_init_18 rfl ?_
  refine z_callI (ci := 9) (As := []) rfl rfl zkX4_21 ziX9_init ⟨by decide +kernel, by decide +kernel⟩ ck50 rfl rfl (Nat.le_of_ble_eq_true rfl) (by decide) ⟨(by decide +kernel), (by decide +kernel)⟩ ⟨(by decide +kernel), (by decide +kernel)⟩ dX4_init_19 ?_
  refine z_putR zfX4_22 (Or.inl ⟨_, rfl⟩) (fun _ => rfl) ⟨by decide +kernel, by decide +kernel⟩ dX4_init_22 ?_
  refine z_tT (X := TT340) rfl ?_
  refine z_aload_n dX4_init_25 rfl ?_
  refine z_bipush (r := 60) dX4_init_26 (by decide) ?_
  refine z_newA (at0 := .int) (ty := .int) (kd := 20) (N := 60) rfl zac_int (Or.inl ⟨rfl, rfl⟩) (by decide) (by decide) (by decide) (by decide +kernel) (by decide +kernel) (by decide +kernel) dX4_init_28 ?_
  refine z_tT (X := TT341) rfl ?_
  refine z_tS (X := SS177) rfl ?_
  refine z_tr (b := 170) (by decide +kernel) ?_
  refine z_putR zfX4_25 (Or.inr ⟨_, rfl⟩) (fun _ => rfl) ⟨by decide +kernel, by decide +kernel⟩ dX4_init_30 ?_
  refine z_tT (X := TT342) rfl ?_
  refine z_aload_n dX4_init_33 rfl ?_
  refine z_bipush (r := 60) dX4_init_34 (by decide) ?_
  refine z_newA (at0 := .int) (ty := .int) (kd := 20) (N := 60) rfl zac_int (Or.inl ⟨rfl, rfl⟩) (by decide) (by decide) (by decide) (by decide +kernel) (by decide +kernel) (by decide +kernel) dX4_init_36 ?_
  refine z_tT (X := TT343) rfl ?_
  refine z_tS (X := SS178) rfl ?_
  refine z_tr (b := 171) (by decide +kernel) ?_
  refine z_putR zfX4_29 (Or.inr ⟨_, rfl⟩) (fun _ => rfl) ⟨by decide +kernel, by decide +kernel⟩ dX4_init_38 ?_
  refine z_tT (X := TT344) rfl ?_
  refine z_aload_n dX4_init_41 rfl ?_
  refine z_bipush (r := 8) dX4_init_42 (by decide) ?_
  refine z_newA (at0 := .int) (ty := .int) (kd := 20) (N := 8) rfl zac_int (Or.inl ⟨rfl, rfl⟩) (by decide) (by decide) (by decide) (by decide +kernel) (by decide +kernel) (by decide +kernel) dX4_init_44 ?_
  refine z_tT (X := TT345) rfl ?_
  refine z_tS (X := SS179) rfl ?_
  refine z_tr (b := 172) (by decide +kernel) ?_
  refine z_putR zfX4_32 (Or.inr ⟨_, rfl⟩) (fun _ => rfl) ⟨by decide +kernel, by decide +kernel⟩ dX4_init_46 ?_
  refine z_tT (X := TT346) rfl ?_
  refine z_aload_n dX4_init_49 rfl ?_
  refine z_bipush (r := 8) dX4_init_50 (by decide) ?_
  refine z_newA (at0 := .int) (ty := .int) (kd := 20) (N := 8) rfl zac_int (Or.inl ⟨rfl, rfl⟩) (by decide) (by decide) (by decide) (by decide +kernel) (by decide +kernel) (by decide +kernel) dX4_init_52 ?_
  refine z_tT (X := TT347) rfl ?_
  refine z_tS (X := SS180) rfl ?_
  refine z_tr (b := 173) (by decide +kernel) ?_
  refine z_putR zfX4_35 (Or.inr ⟨_, rfl⟩) (fun _ => rfl) ⟨by decide +kernel, by decide +kernel⟩ dX4_init_54 ?_
  refine z_tT (X := TT348) rfl ?_
  refine z_aload_n dX4_init_57 rfl ?_
  refine z_bipush (r := 8) dX4_init_58 (by decide) ?_
  refine z_newA (at0 := .int) (ty := .int) (kd := 20) (N := 8) rfl zac_int (Or.inl ⟨rfl, rfl⟩) (by decide) (by decide) (by decide) (by decide +kernel) (by decide +kernel) (by decide +kernel) dX4_init_60 ?_
  refine z_tT (X := TT349) rfl ?_
  refine z_tS (X := SS181) rfl ?_
  refine z_tr (b := 174) (by decide +kernel) ?_
  refine z_putR zfX4_38 (Or.inr ⟨_, rfl⟩) (fun _ => rfl) ⟨by decide +kernel, by decide +kernel⟩ dX4_init_62 ?_
  refine z_tT (X := TT350) rfl ?_
  refine z_aload_n dX4_init_65 rfl ?_
  refine z_bipush (r := 8) dX4_init_66 (by decide) ?_
  refine z_newA (at0 := .int) (ty := .int) (kd := 20) (N := 8) rfl zac_int (Or.inl ⟨rfl, rfl⟩) (by decide) (by decide) (by decide) (by decide +kernel) (by decide +kernel) (by decide +kernel) dX4_init_68 ?_
  refine z_tT (X := TT351) rfl ?_
  refine z_tS (X := SS182) rfl ?_
  refine z_tr (b := 175) (by decide +kernel) ?_
  refine z_putR zfX4_41 (Or.inr ⟨_, rfl⟩) (fun _ => rfl) ⟨by decide +kernel, by decide +kernel⟩ dX4_init_70 ?_
  refine z_tT (X := TT352) rfl ?_
  exact z_vret rfl dX4_init_73
def TT353 : zT := zQ TT352 0 12 166
def TT354 : zT := zNT TT353 5 0 15
noncomputable def SS183 : zS := zNS TT353 SS182
def TT355 : zT := zQ TT354 176 0 7
def TT356 : zT := zQ TT355 176 1 163
def TT357 : zT := zNT TT356 20 8 8
noncomputable def SS184 : zS := zNS TT356 SS183
def TT358 : zT := zQ TT357 176 7 177
def TT359 : zT := zNT TT358 20 15360 15360
noncomputable def SS185 : zS := zNS TT358 SS184
def TT360 : zT := zQ TT359 176 8 178
def TT361 : zT := zNT TT360 20 15360 15360
noncomputable def SS186 : zS := zNS TT360 SS185
def TT362 : zT := zQ TT361 176 9 179
def TT363 : zT := zNT TT362 20 15360 15360
noncomputable def SS187 : zS := zNS TT362 SS186
def TT364 : zT := zQ TT363 176 10 180
def TT365 : zT := zNT TT364 20 256 256
noncomputable def SS188 : zS := zNS TT364 SS187
def TT366 : zT := zQ TT365 176 11 181
def TT367 : zT := zNT TT366 20 256 256
noncomputable def SS189 : zS := zNS TT366 SS188
def TT368 : zT := zQ TT367 176 12 182
def TT369 : zT := zNT TT368 20 81 81
noncomputable def SS190 : zS := zNS TT368 SS189
def TT370 : zT := zQ TT369 176 13 183
def TT371 : zT := zNT TT370 20 81 81
noncomputable def SS191 : zS := zNS TT370 SS190
def TT372 : zT := zQ TT371 176 14 184
set_option maxHeartbeats 4000000 in
set_option maxRecDepth 100000 in
theorem ck52 : zGM 1 mX5_init [.ref 176, .ref 7, .ref 163] TT354 SS183 none TT372 SS191 := by
  refine zGM_of zpnX5 rfl (Nat.le_of_ble_eq_true rfl) (fun g => ?_)
  show zg g 1 mX5_init TT354 0 [some (.ref 176), some (.ref 7), some (.ref 163)] [] TT354 SS183 none TT372 SS191
  refine z_aload_n dX5_init_0 rfl ?_
  refine z_objInit (by decide) zoX5_3 zoi_inst zoi_code (by decide) (Nat.le_of_ble_eq_true rfl) dX5_init_1 ?_
  refine z_aload_n dX5_init_4 rfl ?_
  refine z_aload_n dX5_init_5 rfl ?_
  refine z_putR zfX5_9 (Or.inl ⟨_, rfl⟩) (fun _ => rfl) ⟨by decide +kernel, by decide +kernel⟩ dX5_init_6 ?_
  refine z_tT (X := TT355) rfl ?_
  refine z_aload_n dX5_init_9 rfl ?_
  refine z_aload_n dX5_init_10 rfl ?_
  refine z_putR zfX5_15 (Or.inl ⟨_, rfl⟩) (fun _ => rfl) ⟨by decide +kernel, by decide +kernel⟩ dX5_init_11 ?_
  refine z_tT (X := TT356) rfl ?_
  refine z_aload_n dX5_init_14 rfl ?_
  refine z_bipush (r := 8) dX5_init_15 (by decide) ?_
  refine z_newA (at0 := .int) (ty := .int) (kd := 20) (N := 8) rfl zac_int (Or.inl ⟨rfl, rfl⟩) (by decide) (by decide) (by decide) (by decide +kernel) (by decide +kernel) (by decide +kernel) dX5_init_17 ?_
  refine z_tT (X := TT357) rfl ?_
  refine z_tS (X := SS184) rfl ?_
  refine z_tr (b := 177) (by decide +kernel) ?_
  refine z_putR zfX5_19 (Or.inr ⟨_, rfl⟩) (fun _ => rfl) ⟨by decide +kernel, by decide +kernel⟩ dX5_init_19 ?_
  refine z_tT (X := TT358) rfl ?_
  refine z_aload_n dX5_init_22 rfl ?_
  refine z_sipush (r := 15360) dX5_init_23 (by decide) ?_
  refine z_newA (at0 := .int) (ty := .int) (kd := 20) (N := 15360) rfl zac_int (Or.inl ⟨rfl, rfl⟩) (by decide) (by decide) (by decide) (by decide +kernel) (by decide +kernel) (by decide +kernel) dX5_init_26 ?_
  refine z_tT (X := TT359) rfl ?_
  refine z_tS (X := SS185) rfl ?_
  refine z_tr (b := 178) (by decide +kernel) ?_
  refine z_putR zfX5_23 (Or.inr ⟨_, rfl⟩) (fun _ => rfl) ⟨by decide +kernel, by decide +kernel⟩ dX5_init_28 ?_
  refine z_tT (X := TT360) rfl ?_
  refine z_aload_n dX5_init_31 rfl ?_
  refine z_sipush (r := 15360) dX5_init_32 (by decide) ?_
  refine z_newA (at0 := .int) (ty := .int) (kd := 20) (N := 15360) rfl zac_int (Or.inl ⟨rfl, rfl⟩) (by decide) (by decide) (by decide) (by decide +kernel) (by decide +kernel) (by decide +kernel) dX5_init_35 ?_
  refine z_tT (X := TT361) rfl ?_
  refine z_tS (X := SS186) rfl ?_
  refine z_tr (b := 179) (by decide +kernel) ?_
  refine z_putR zfX5_26 (Or.inr ⟨_, rfl⟩) (fun _ => rfl) ⟨by decide +kernel, by decide +kernel⟩ dX5_init_37 ?_
  refine z_tT (X := TT362) rfl ?_
  refine z_aload_n dX5_init_40 rfl ?_
  refine z_sipush (r := 15360) dX5_init_41 (by decide) ?_
  refine z_newA (at0 := .int) (ty := .int) (kd := 20) (N := 15360) rfl zac_int (Or.inl ⟨rfl, rfl⟩) (by decide) (by decide) (by decide) (by decide +kernel) (by decide +kernel) (by decide +kernel) dX5_init_44 ?_
  refine z_tT (X := TT363) rfl ?_
  refine z_tS (X := SS187) rfl ?_
  refine z_tr (b := 180) (by decide +kernel) ?_
  refine z_putR zfX5_29 (Or.inr ⟨_, rfl⟩) (fun _ => rfl) ⟨by decide +kernel, by decide +kernel⟩ dX5_init_46 ?_
  refine z_tT (X := TT364) rfl ?_
  refine z_aload_n dX5_init_49 rfl ?_
  refine z_sipush (r := 256) dX5_init_50 (by decide) ?_
  refine z_newA (at0 := .int) (ty := .int) (kd := 20) (N := 256) rfl zac_int (Or.inl ⟨rfl, rfl⟩) (by decide) (by decide) (by decide) (by decide +kernel) (by decide +kernel) (by decide +kernel) dX5_init_53 ?_
  refine z_tT (X := TT365) rfl ?_
  refine z_tS (X := SS188) rfl ?_
  refine z_tr (b := 181) (by decide +kernel) ?_
  refine z_putR zfX5_32 (Or.inr ⟨_, rfl⟩) (fun _ => rfl) ⟨by decide +kernel, by decide +kernel⟩ dX5_init_55 ?_
  refine z_tT (X := TT366) rfl ?_
  refine z_aload_n dX5_init_58 rfl ?_
  refine z_sipush (r := 256) dX5_init_59 (by decide) ?_
  refine z_newA (at0 := .int) (ty := .int) (kd := 20) (N := 256) rfl zac_int (Or.inl ⟨rfl, rfl⟩) (by decide) (by decide) (by decide) (by decide +kernel) (by decide +kernel) (by decide +kernel) dX5_init_62 ?_
  refine z_tT (X := TT367) rfl ?_
  refine z_tS (X := SS189) rfl ?_
  refine z_tr (b := 182) (by decide +kernel) ?_
  refine z_putR zfX5_35 (Or.inr ⟨_, rfl⟩) (fun _ => rfl) ⟨by decide +kernel, by decide +kernel⟩ dX5_init_64 ?_
  refine z_tT (X := TT368) rfl ?_
  refine z_aload_n dX5_init_67 rfl ?_
  refine z_bipush (r := 81) dX5_init_68 (by decide) ?_
  refine z_newA (at0 := .int) (ty := .int) (kd := 20) (N := 81) rfl zac_int (Or.inl ⟨rfl, rfl⟩) (by decide) (by decide) (by decide) (by decide +kernel) (by decide +kernel) (by decide +kernel) dX5_init_70 ?_
  refine z_tT (X := TT369) rfl ?_
  refine z_tS (X := SS190) rfl ?_
  refine z_tr (b := 183) (by decide +kernel) ?_
  refine z_putR zfX5_38 (Or.inr ⟨_, rfl⟩) (fun _ => rfl) ⟨by decide +kernel, by decide +kernel⟩ dX5_init_72 ?_
  refine z_tT (X := TT370) rfl ?_
  refine z_aload_n dX5_init_75 rfl ?_
  refine z_bipush (r := 81) dX5_init_76 (by decide) ?_
  refine z_newA (at0 := .int) (ty := .int) (kd := 20) (N := 81) rfl zac_int (Or.inl ⟨rfl, rfl⟩) (by decide) (by decide) (by decide) (by decide +kernel) (by decide +kernel) (by decide +kernel) dX5_init_78 ?_
  refine z_tT (X := TT371) rfl ?_
  refine z_tS (X := SS191) rfl ?_
  refine z_tr (b := 184) (by decide +kernel) ?_
  refine z_putR zfX5_41 (Or.inr ⟨_, rfl⟩) (fun _ => rfl) ⟨by decide +kernel, by decide +kernel⟩ dX5_init_80 ?_
  refine z_tT (X := TT372) rfl ?_
  exact z_vret rfl dX5_init_83
def TT373 : zT := zQ TT372 0 13 176
def TT374 : zT := zNT TT373 3 0 1
noncomputable def SS192 : zS := zNS TT373 SS191
set_option maxHeartbeats 4000000 in
set_option maxRecDepth 100000 in
theorem ck53 : zGM 1 mX3_init [.ref 185] TT374 SS192 none TT374 SS192 := by
  refine zGM_of zpnX3 rfl (Nat.le_of_ble_eq_true rfl) (fun g => ?_)
  show zg g 1 mX3_init TT374 0 [some (.ref 185)] [] TT374 SS192 none TT374 SS192
  refine z_aload_n dX3_init_0 rfl ?_
  refine z_objInit (by decide) zoX3_3 zoi_inst zoi_code (by decide) (Nat.le_of_ble_eq_true rfl) dX3_init_1 ?_
  exact z_vret rfl dX3_init_4
def TT375 : zT := zQ TT374 0 14 185
def TT376 : zT := zNT TT375 20 8 8
noncomputable def SS193 : zS := zNS TT375 SS192
def TT377 : zT := zQ TT376 0 15 186
set_option maxHeartbeats 4000000 in
set_option maxRecDepth 100000 in
theorem ck54 : zGM 3 mX11_init [.ref 0] TT1 SS1 none TT377 SS193 := by
  refine zGM_of zpnX11 rfl (Nat.le_of_ble_eq_true rfl) (fun g => ?_)
  show zg g 3 mX11_init TT1 0 [some (.ref 0), none] [] TT1 SS1 none TT377 SS193
  refine z_aload_n dX11_init_0 rfl ?_
  refine z_objInit (by decide) zoX11_1 zoi_inst zoi_code (by decide) (Nat.le_of_ble_eq_true rfl) dX11_init_1 ?_
  refine z_aload_n dX11_init_4 rfl ?_
  refine z_sipush (r := 400) dX11_init_5 (by decide) ?_
  refine z_newA (at0 := .int) (ty := .int) (kd := 20) (N := 400) rfl zac_int (Or.inl ⟨rfl, rfl⟩) (by decide) (by decide) (by decide) (by decide +kernel) (by decide +kernel) (by decide +kernel) dX11_init_8 ?_
  refine z_tT (X := TT2) rfl ?_
  refine z_tS (X := SS2) rfl ?_
  refine z_tr (b := 1) (by decide +kernel) ?_
  refine z_putR zfX11_9 (Or.inr ⟨_, rfl⟩) (fun _ => rfl) ⟨by decide +kernel, by decide +kernel⟩ dX11_init_10 ?_
  refine z_tT (X := TT3) rfl ?_
  refine z_aload_n dX11_init_13 rfl ?_
  refine z_new zcX6 zdfX6 zwX11_13 zvX6 zjX6 (by decide +kernel) (by decide +kernel) (by decide +kernel) dX11_init_14 ?_
  refine z_tT (X := TT4) rfl ?_
  refine z_tS (X := SS3) rfl ?_
  refine z_tr (b := 2) (by decide +kernel) ?_
  refine z_dup dX11_init_17 rfl ?_
  refine z_callI (ci := 6) (As := []) rfl rfl zkX11_15 ziX6_init ⟨by decide +kernel, by decide +kernel⟩ ck1 rfl rfl (Nat.le_of_ble_eq_true rfl) (by decide) ⟨(by decide +kernel), (by decide +kernel)⟩ ⟨(by decide +kernel), (by decide +kernel)⟩ dX11_init_18 ?_
  refine z_putR zfX11_16 (Or.inl ⟨_, rfl⟩) (fun _ => rfl) ⟨by decide +kernel, by decide +kernel⟩ dX11_init_21 ?_
  refine z_tT (X := TT13) rfl ?_
  refine z_aload_n dX11_init_24 rfl ?_
  refine z_new zcX0 zdfX0 zwX11_20 zvX0 zjX0 (by decide +kernel) (by decide +kernel) (by decide +kernel) dX11_init_25 ?_
  refine z_tT (X := TT14) rfl ?_
  refine z_tS (X := SS8) rfl ?_
  refine z_tr (b := 7) (by decide +kernel) ?_
  refine z_dup dX11_init_28 rfl ?_
  refine z_callI (ci := 0) (As := []) rfl rfl zkX11_22 ziX0_init ⟨by decide +kernel, by decide +kernel⟩ ck6 rfl rfl (Nat.le_of_ble_eq_true rfl) (by decide) ⟨(by decide +kernel), (by decide +kernel)⟩ ⟨(by decide +kernel), (by decide +kernel)⟩ dX11_init_29 ?_
  refine z_putR zfX11_23 (Or.inl ⟨_, rfl⟩) (fun _ => rfl) ⟨by decide +kernel, by decide +kernel⟩ dX11_init_32 ?_
  refine z_tT (X := TT47) rfl ?_
  refine z_aload_n dX11_init_35 rfl ?_
  refine z_new zcX0 zdfX0 zwX11_20 zvX0 zjX0 (by decide +kernel) (by decide +kernel) (by decide +kernel) dX11_init_36 ?_
  refine z_tT (X := TT48) rfl ?_
  refine z_tS (X := SS26) rfl ?_
  refine z_tr (b := 24) (by decide +kernel) ?_
  refine z_dup dX11_init_39 rfl ?_
  refine z_callI (ci := 0) (As := []) rfl rfl zkX11_22 ziX0_init ⟨by decide +kernel, by decide +kernel⟩ ck11 rfl rfl (Nat.le_of_ble_eq_true rfl) (by decide) ⟨(by decide +kernel), (by decide +kernel)⟩ ⟨(by decide +kernel), (by decide +kernel)⟩ dX11_init_40 ?_
  refine z_putR zfX11_27 (Or.inl ⟨_, rfl⟩) (fun _ => rfl) ⟨by decide +kernel, by decide +kernel⟩ dX11_init_43 ?_
  refine z_tT (X := TT81) rfl ?_
  refine z_aload_n dX11_init_46 rfl ?_
  refine z_new zcX7 zdfX7 zwX11_30 zvX7 zjX7 (by decide +kernel) (by decide +kernel) (by decide +kernel) dX11_init_47 ?_
  refine z_tT (X := TT82) rfl ?_
  refine z_tS (X := SS44) rfl ?_
  refine z_tr (b := 41) (by decide +kernel) ?_
  refine z_dup dX11_init_50 rfl ?_
  refine z_callI (ci := 7) (As := []) rfl rfl zkX11_32 ziX7_init ⟨by decide +kernel, by decide +kernel⟩ ck12 rfl rfl (Nat.le_of_ble_eq_true rfl) (by decide) ⟨(by decide +kernel), (by decide +kernel)⟩ ⟨(by decide +kernel), (by decide +kernel)⟩ dX11_init_51 ?_
  refine z_putR zfX11_33 (Or.inl ⟨_, rfl⟩) (fun _ => rfl) ⟨by decide +kernel, by decide +kernel⟩ dX11_init_54 ?_
  refine z_tT (X := TT89) rfl ?_
  refine z_aload_n dX11_init_57 rfl ?_
  refine z_bipush (r := 6) dX11_init_58 (by decide) ?_
  refine z_anew (kd := 24) (N := 6) zwX11_37 (Or.inl ⟨rfl, rfl⟩) (by decide) (by decide) (by decide) (by decide +kernel) (by decide +kernel) (by decide +kernel) dX11_init_60 ?_
  refine z_tT (X := TT90) rfl ?_
  refine z_tS (X := SS48) rfl ?_
  refine z_tr (b := 45) (by decide +kernel) ?_
  refine z_putR zfX11_39 (Or.inr ⟨_, rfl⟩) (fun _ => rfl) ⟨by decide +kernel, by decide +kernel⟩ dX11_init_63 ?_
  refine z_tT (X := TT91) rfl ?_
  refine z_iconst (r := 0) dX11_init_66 (by decide) ?_
  refine z_istore_n dX11_init_67 rfl (by decide) rfl ?_
  refine z_iload_n dX11_init_68 rfl ?_
  refine z_bipush (r := 6) dX11_init_69 (by decide) ?_
  refine z_icmp_ge (tgt := 93) dX11_init_71 (by decide) (fun q => absurd q (by decide)) (fun _ => ?_)
  refine z_aload_n dX11_init_74 rfl ?_
  refine z_gA (zF.x zfX11_39) ⟨by decide +kernel, by decide +kernel⟩ dX11_init_75 ?_
  refine z_tr (b := 45) (by decide +kernel) ?_
  refine z_iload_n dX11_init_78 rfl ?_
  refine z_new zcX8 zdfX8 zwX11_37 zvX8 zjX8 (by decide +kernel) (by decide +kernel) (by decide +kernel) dX11_init_79 ?_
  refine z_tT (X := TT92) rfl ?_
  refine z_tS (X := SS49) rfl ?_
  refine z_tr (b := 46) (by decide +kernel) ?_
  refine z_dup dX11_init_82 rfl ?_
  refine z_callI (ci := 8) (As := []) rfl rfl zkX11_43 ziX8_init ⟨by decide +kernel, by decide +kernel⟩ ck14 rfl rfl (Nat.le_of_ble_eq_true rfl) (by decide) ⟨(by decide +kernel), (by decide +kernel)⟩ ⟨(by decide +kernel), (by decide +kernel)⟩ dX11_init_83 ?_
  refine z_aast (kd := 24) (n := 6) zcX8 ⟨by decide +kernel, by decide +kernel, by decide +kernel⟩ (by decide) (fun _ => rfl) ⟨by decide +kernel, by decide +kernel⟩ (zin_ok (by decide +kernel)) dX11_init_86 ?_
  refine z_tT (X := TT101) rfl ?_
  refine z_iinc (r := 1) dX11_init_87 rfl (by decide) rfl (by decide) rfl ?_
  refine z_goto (tgt := 68) dX11_init_90 (by decide) ?_
  refine z_iload_n dX11_init_68 rfl ?_
  refine z_bipush (r := 6) dX11_init_69 (by decide) ?_
  refine z_icmp_ge (tgt := 93) dX11_init_71 (by decide) (fun q => absurd q (by decide)) (fun _ => ?_)
  refine z_aload_n dX11_init_74 rfl ?_
  refine z_gA (zF.x zfX11_39) ⟨by decide +kernel, by decide +kernel⟩ dX11_init_75 ?_
  refine z_tr (b := 45) (by decide +kernel) ?_
  refine z_iload_n dX11_init_78 rfl ?_
  refine z_new zcX8 zdfX8 zwX11_37 zvX8 zjX8 (by decide +kernel) (by decide +kernel) (by decide +kernel) dX11_init_79 ?_
  refine z_tT (X := TT102) rfl ?_
  refine z_tS (X := SS54) rfl ?_
  refine z_tr (b := 51) (by decide +kernel) ?_
  refine z_dup dX11_init_82 rfl ?_
  refine z_callI (ci := 8) (As := []) rfl rfl zkX11_43 ziX8_init ⟨by decide +kernel, by decide +kernel⟩ ck16 rfl rfl (Nat.le_of_ble_eq_true rfl) (by decide) ⟨(by decide +kernel), (by decide +kernel)⟩ ⟨(by decide +kernel), (by decide +kernel)⟩ dX11_init_83 ?_
  refine z_aast (kd := 24) (n := 6) zcX8 ⟨by decide +kernel, by decide +kernel, by decide +kernel⟩ (by decide) (fun _ => rfl) ⟨by decide +kernel, by decide +kernel⟩ (zin_ok (by decide +kernel)) dX11_init_86 ?_
  refine z_tT (X := TT111) rfl ?_
  refine z_iinc (r := 2) dX11_init_87 rfl (by decide) rfl (by decide) rfl ?_
  refine z_goto (tgt := 68) dX11_init_90 (by decide) ?_
  refine z_iload_n dX11_init_68 rfl ?_
  refine z_bipush (r := 6) dX11_init_69 (by decide) ?_
  refine z_icmp_ge (tgt := 93) dX11_init_71 (by decide) (fun q => absurd q (by decide)) (fun _ => ?_)
  refine z_aload_n dX11_init_74 rfl ?_
  refine z_gA (zF.x zfX11_39) ⟨by decide +kernel, by decide +kernel⟩ dX11_init_75 ?_
  refine z_tr (b := 45) (by decide +kernel) ?_
  refine z_iload_n dX11_init_78 rfl ?_
  refine z_new zcX8 zdfX8 zwX11_37 zvX8 zjX8 (by decide +kernel) (by decide +kernel) (by decide +kernel) dX11_init_79 ?_
  refine z_tT (X := TT112) rfl ?_
  refine z_tS (X := SS59) rfl ?_
  refine z_tr (b := 56) (by decide +kernel) ?_
  refine z_dup dX11_init_82 rfl ?_
  refine z_callI (ci := 8) (As := []) rfl rfl zkX11_43 ziX8_init ⟨by decide +kernel, by decide +kernel⟩ ck18 rfl rfl (Nat.le_of_ble_eq_true rfl) (by decide) ⟨(by decide +kernel), (by decide +kernel)⟩ ⟨(by decide +kernel), (by decide +kernel)⟩ dX11_init_83 ?_
  refine z_aast (kd := 24) (n := 6) zcX8 ⟨by decide +kernel, by decide +kernel, by decide +kernel⟩ (by decide) (fun _ => rfl) ⟨by decide +kernel, by decide +kernel⟩ (zin_ok (by decide +kernel)) dX11_init_86 ?_
  refine z_tT (X := TT121) rfl ?_
  refine z_iinc (r := 3) dX11_init_87 rfl (by decide) rfl (by decide) rfl ?_
  refine z_goto (tgt := 68) dX11_init_90 (by decide) ?_
  refine z_iload_n dX11_init_68 rfl ?_
  refine z_bipush (r := 6) dX11_init_69 (by decide) ?_
  refine z_icmp_ge (tgt := 93) dX11_init_71 (by decide) (fun q => absurd q (by decide)) (fun _ => ?_)
  refine z_aload_n dX11_init_74 rfl ?_
  refine z_gA (zF.x zfX11_39) ⟨by decide +kernel, by decide +kernel⟩ dX11_init_75 ?_
  refine z_tr (b := 45) (by decide +kernel) ?_
  refine z_iload_n dX11_init_78 rfl ?_
  refine z_new zcX8 zdfX8 zwX11_37 zvX8 zjX8 (by decide +kernel) (by decide +kernel) (by decide +kernel) dX11_init_79 ?_
  refine z_tT (X := TT122) rfl ?_
  refine z_tS (X := SS64) rfl ?_
  refine z_tr (b := 61) (by decide +kernel) ?_
  refine z_dup dX11_init_82 rfl ?_
  refine z_callI (ci := 8) (As := []) rfl rfl zkX11_43 ziX8_init ⟨by decide +kernel, by decide +kernel⟩ ck20 rfl rfl (Nat.le_of_ble_eq_true rfl) (by decide) ⟨(by decide +kernel), (by decide +kernel)⟩ ⟨(by decide +kernel), (by decide +kernel)⟩ dX11_init_83 ?_
  refine z_aast (kd := 24) (n := 6) zcX8 ⟨by decide +kernel, by decide +kernel, by decide +kernel⟩ (by decide) (fun _ => rfl) ⟨by decide +kernel, by decide +kernel⟩ (zin_ok (by decide +kernel)) dX11_init_86 ?_
  refine z_tT (X := TT131) rfl ?_
  refine z_iinc (r := 4) dX11_init_87 rfl (by decide) rfl (by decide) rfl ?_
  refine z_goto (tgt := 68) dX11_init_90 (by decide) ?_
  refine z_iload_n dX11_init_68 rfl ?_
  refine z_bipush (r := 6) dX11_init_69 (by decide) ?_
  refine z_icmp_ge (tgt := 93) dX11_init_71 (by decide) (fun q => absurd q (by decide)) (fun _ => ?_)
  refine z_aload_n dX11_init_74 rfl ?_
  refine z_gA (zF.x zfX11_39) ⟨by decide +kernel, by decide +kernel⟩ dX11_init_75 ?_
  refine z_tr (b := 45) (by decide +kernel) ?_
  refine z_iload_n dX11_init_78 rfl ?_
  refine z_new zcX8 zdfX8 zwX11_37 zvX8 zjX8 (by decide +kernel) (by decide +kernel) (by decide +kernel) dX11_init_79 ?_
  refine z_tT (X := TT132) rfl ?_
  refine z_tS (X := SS69) rfl ?_
  refine z_tr (b := 66) (by decide +kernel) ?_
  refine z_dup dX11_init_82 rfl ?_
  refine z_callI (ci := 8) (As := []) rfl rfl zkX11_43 ziX8_init ⟨by decide +kernel, by decide +kernel⟩ ck22 rfl rfl (Nat.le_of_ble_eq_true rfl) (by decide) ⟨(by decide +kernel), (by decide +kernel)⟩ ⟨(by decide +kernel), (by decide +kernel)⟩ dX11_init_83 ?_
  refine z_aast (kd := 24) (n := 6) zcX8 ⟨by decide +kernel, by decide +kernel, by decide +kernel⟩ (by decide) (fun _ => rfl) ⟨by decide +kernel, by decide +kernel⟩ (zin_ok (by decide +kernel)) dX11_init_86 ?_
  refine z_tT (X := TT141) rfl ?_
  refine z_iinc (r := 5) dX11_init_87 rfl (by decide) rfl (by decide) rfl ?_
  refine z_goto (tgt := 68) dX11_init_90 (by decide) ?_
  refine z_iload_n dX11_init_68 rfl ?_
  refine z_bipush (r := 6) dX11_init_69 (by decide) ?_
  refine z_icmp_ge (tgt := 93) dX11_init_71 (by decide) (fun q => absurd q (by decide)) (fun _ => ?_)
  refine z_aload_n dX11_init_74 rfl ?_
  refine z_gA (zF.x zfX11_39) ⟨by decide +kernel, by decide +kernel⟩ dX11_init_75 ?_
  refine z_tr (b := 45) (by decide +kernel) ?_
  refine z_iload_n dX11_init_78 rfl ?_
  refine z_new zcX8 zdfX8 zwX11_37 zvX8 zjX8 (by decide +kernel) (by decide +kernel) (by decide +kernel) dX11_init_79 ?_
  refine z_tT (X := TT142) rfl ?_
  refine z_tS (X := SS74) rfl ?_
  refine z_tr (b := 71) (by decide +kernel) ?_
  refine z_dup dX11_init_82 rfl ?_
  refine z_callI (ci := 8) (As := []) rfl rfl zkX11_43 ziX8_init ⟨by decide +kernel, by decide +kernel⟩ ck24 rfl rfl (Nat.le_of_ble_eq_true rfl) (by decide) ⟨(by decide +kernel), (by decide +kernel)⟩ ⟨(by decide +kernel), (by decide +kernel)⟩ dX11_init_83 ?_
  refine z_aast (kd := 24) (n := 6) zcX8 ⟨by decide +kernel, by decide +kernel, by decide +kernel⟩ (by decide) (fun _ => rfl) ⟨by decide +kernel, by decide +kernel⟩ (zin_ok (by decide +kernel)) dX11_init_86 ?_
  refine z_tT (X := TT151) rfl ?_
  refine z_iinc (r := 6) dX11_init_87 rfl (by decide) rfl (by decide) rfl ?_
  refine z_goto (tgt := 68) dX11_init_90 (by decide) ?_
  refine z_iload_n dX11_init_68 rfl ?_
  refine z_bipush (r := 6) dX11_init_69 (by decide) ?_
  refine z_icmp_ge (tgt := 93) dX11_init_71 (by decide) (fun _ => ?_) (fun q => absurd (by decide) q)
  refine z_aload_n dX11_init_93 rfl ?_
  refine z_iconst (r := 4) dX11_init_94 (by decide) ?_
  refine z_anew (kd := 25) (N := 4) zwX11_20 (Or.inr (Or.inl ⟨rfl, rfl⟩)) (by decide) (by decide) (by decide) (by decide +kernel) (by decide +kernel) (by decide +kernel) dX11_init_95 ?_
  refine z_tT (X := TT152) rfl ?_
  refine z_tS (X := SS79) rfl ?_
  refine z_tr (b := 76) (by decide +kernel) ?_
  refine z_putR zfX11_44 (Or.inr ⟨_, rfl⟩) (fun _ => rfl) ⟨by decide +kernel, by decide +kernel⟩ dX11_init_98 ?_
  refine z_tT (X := TT153) rfl ?_
  refine z_aload_n dX11_init_101 rfl ?_
  refine z_iconst (r := 4) dX11_init_102 (by decide) ?_
  refine z_anew (kd := 26) (N := 4) zwX11_30 (Or.inr (Or.inr ⟨rfl, rfl⟩)) (by decide) (by decide) (by decide) (by decide +kernel) (by decide +kernel) (by decide +kernel) dX11_init_103 ?_
  refine z_tT (X := TT154) rfl ?_
  refine z_tS (X := SS80) rfl ?_
  refine z_tr (b := 77) (by decide +kernel) ?_
  refine z_putR zfX11_48 (Or.inr ⟨_, rfl⟩) (fun _ => rfl) ⟨by decide +kernel, by decide +kernel⟩ dX11_init_106 ?_
  refine z_tT (X := TT155) rfl ?_
  refine z_iconst (r := 0) dX11_init_109 (by decide) ?_
  refine z_istore_n dX11_init_110 rfl (by decide) rfl ?_
  refine z_iload_n dX11_init_111 rfl ?_
  refine z_iconst (r := 4) dX11_init_112 (by decide) ?_
  refine z_icmp_ge (tgt := 148) dX11_init_113 (by decide) (fun q => absurd q (by decide)) (fun _ => ?_)
  refine z_aload_n dX11_init_116 rfl ?_
  refine z_gA (zF.x zfX11_44) ⟨by decide +kernel, by decide +kernel⟩ dX11_init_117 ?_
  refine z_tr (b := 76) (by decide +kernel) ?_
  refine z_iload_n dX11_init_120 rfl ?_
  refine z_new zcX0 zdfX0 zwX11_20 zvX0 zjX0 (by decide +kernel) (by decide +kernel) (by decide +kernel) dX11_init_121 ?_
  refine z_tT (X := TT156) rfl ?_
  refine z_tS (X := SS81) rfl ?_
  refine z_tr (b := 78) (by decide +kernel) ?_
  refine z_dup dX11_init_124 rfl ?_
  refine z_callI (ci := 0) (As := []) rfl rfl zkX11_22 ziX0_init ⟨by decide +kernel, by decide +kernel⟩ ck29 rfl rfl (Nat.le_of_ble_eq_true rfl) (by decide) ⟨(by decide +kernel), (by decide +kernel)⟩ ⟨(by decide +kernel), (by decide +kernel)⟩ dX11_init_125 ?_
  refine z_aast (kd := 25) (n := 4) zcX0 ⟨by decide +kernel, by decide +kernel, by decide +kernel⟩ (by decide) (fun _ => rfl) ⟨by decide +kernel, by decide +kernel⟩ (zin_ok (by decide +kernel)) dX11_init_128 ?_
  refine z_tT (X := TT189) rfl ?_
  refine z_aload_n dX11_init_129 rfl ?_
  refine z_gA (zF.x zfX11_48) ⟨by decide +kernel, by decide +kernel⟩ dX11_init_130 ?_
  refine z_tr (b := 77) (by decide +kernel) ?_
  refine z_iload_n dX11_init_133 rfl ?_
  refine z_new zcX7 zdfX7 zwX11_30 zvX7 zjX7 (by decide +kernel) (by decide +kernel) (by decide +kernel) dX11_init_134 ?_
  refine z_tT (X := TT190) rfl ?_
  refine z_tS (X := SS99) rfl ?_
  refine z_tr (b := 95) (by decide +kernel) ?_
  refine z_dup dX11_init_137 rfl ?_
  refine z_callI (ci := 7) (As := []) rfl rfl zkX11_32 ziX7_init ⟨by decide +kernel, by decide +kernel⟩ ck30 rfl rfl (Nat.le_of_ble_eq_true rfl) (by decide) ⟨(by decide +kernel), (by decide +kernel)⟩ ⟨(by decide +kernel), (by decide +kernel)⟩ dX11_init_138 ?_
  refine z_aast (kd := 26) (n := 4) zcX7 ⟨by decide +kernel, by decide +kernel, by decide +kernel⟩ (by decide) (fun _ => rfl) ⟨by decide +kernel, by decide +kernel⟩ (zin_ok (by decide +kernel)) dX11_init_141 ?_
  refine z_tT (X := TT197) rfl ?_
  refine z_iinc (r := 1) dX11_init_142 rfl (by decide) rfl (by decide) rfl ?_
  refine z_goto (tgt := 111) dX11_init_145 (by decide) ?_
  refine z_iload_n dX11_init_111 rfl ?_
  refine z_iconst (r := 4) dX11_init_112 (by decide) ?_
  refine z_icmp_ge (tgt := 148) dX11_init_113 (by decide) (fun q => absurd q (by decide)) (fun _ => ?_)
  refine z_aload_n dX11_init_116 rfl ?_
  refine z_gA (zF.x zfX11_44) ⟨by decide +kernel, by decide +kernel⟩ dX11_init_117 ?_
  refine z_tr (b := 76) (by decide +kernel) ?_
  refine z_iload_n dX11_init_120 rfl ?_
  refine z_new zcX0 zdfX0 zwX11_20 zvX0 zjX0 (by decide +kernel) (by decide +kernel) (by decide +kernel) dX11_init_121 ?_
  refine z_tT (X := TT198) rfl ?_
  refine z_tS (X := SS103) rfl ?_
  refine z_tr (b := 99) (by decide +kernel) ?_
  refine z_dup dX11_init_124 rfl ?_
  refine z_callI (ci := 0) (As := []) rfl rfl zkX11_22 ziX0_init ⟨by decide +kernel, by decide +kernel⟩ ck35 rfl rfl (Nat.le_of_ble_eq_true rfl) (by decide) ⟨(by decide +kernel), (by decide +kernel)⟩ ⟨(by decide +kernel), (by decide +kernel)⟩ dX11_init_125 ?_
  refine z_aast (kd := 25) (n := 4) zcX0 ⟨by decide +kernel, by decide +kernel, by decide +kernel⟩ (by decide) (fun _ => rfl) ⟨by decide +kernel, by decide +kernel⟩ (zin_ok (by decide +kernel)) dX11_init_128 ?_
  refine z_tT (X := TT231) rfl ?_
  refine z_aload_n dX11_init_129 rfl ?_
  refine z_gA (zF.x zfX11_48) ⟨by decide +kernel, by decide +kernel⟩ dX11_init_130 ?_
  refine z_tr (b := 77) (by decide +kernel) ?_
  refine z_iload_n dX11_init_133 rfl ?_
  refine z_new zcX7 zdfX7 zwX11_30 zvX7 zjX7 (by decide +kernel) (by decide +kernel) (by decide +kernel) dX11_init_134 ?_
  refine z_tT (X := TT232) rfl ?_
  refine z_tS (X := SS121) rfl ?_
  refine z_tr (b := 116) (by decide +kernel) ?_
  refine z_dup dX11_init_137 rfl ?_
  refine z_callI (ci := 7) (As := []) rfl rfl zkX11_32 ziX7_init ⟨by decide +kernel, by decide +kernel⟩ ck36 rfl rfl (Nat.le_of_ble_eq_true rfl) (by decide) ⟨(by decide +kernel), (by decide +kernel)⟩ ⟨(by decide +kernel), (by decide +kernel)⟩ dX11_init_138 ?_
  refine z_aast (kd := 26) (n := 4) zcX7 ⟨by decide +kernel, by decide +kernel, by decide +kernel⟩ (by decide) (fun _ => rfl) ⟨by decide +kernel, by decide +kernel⟩ (zin_ok (by decide +kernel)) dX11_init_141 ?_
  refine z_tT (X := TT239) rfl ?_
  refine z_iinc (r := 2) dX11_init_142 rfl (by decide) rfl (by decide) rfl ?_
  refine z_goto (tgt := 111) dX11_init_145 (by decide) ?_
  refine z_iload_n dX11_init_111 rfl ?_
  refine z_iconst (r := 4) dX11_init_112 (by decide) ?_
  refine z_icmp_ge (tgt := 148) dX11_init_113 (by decide) (fun q => absurd q (by decide)) (fun _ => ?_)
  refine z_aload_n dX11_init_116 rfl ?_
  refine z_gA (zF.x zfX11_44) ⟨by decide +kernel, by decide +kernel⟩ dX11_init_117 ?_
  refine z_tr (b := 76) (by decide +kernel) ?_
  refine z_iload_n dX11_init_120 rfl ?_
  refine z_new zcX0 zdfX0 zwX11_20 zvX0 zjX0 (by decide +kernel) (by decide +kernel) (by decide +kernel) dX11_init_121 ?_
  refine z_tT (X := TT240) rfl ?_
  refine z_tS (X := SS125) rfl ?_
  refine z_tr (b := 120) (by decide +kernel) ?_
  refine z_dup dX11_init_124 rfl ?_
  refine z_callI (ci := 0) (As := []) rfl rfl zkX11_22 ziX0_init ⟨by decide +kernel, by decide +kernel⟩ ck41 rfl rfl (Nat.le_of_ble_eq_true rfl) (by decide) ⟨(by decide +kernel), (by decide +kernel)⟩ ⟨(by decide +kernel), (by decide +kernel)⟩ dX11_init_125 ?_
  refine z_aast (kd := 25) (n := 4) zcX0 ⟨by decide +kernel, by decide +kernel, by decide +kernel⟩ (by decide) (fun _ => rfl) ⟨by decide +kernel, by decide +kernel⟩ (zin_ok (by decide +kernel)) dX11_init_128 ?_
  refine z_tT (X := TT273) rfl ?_
  refine z_aload_n dX11_init_129 rfl ?_
  refine z_gA (zF.x zfX11_48) ⟨by decide +kernel, by decide +kernel⟩ dX11_init_130 ?_
  refine z_tr (b := 77) (by decide +kernel) ?_
  refine z_iload_n dX11_init_133 rfl ?_
  refine z_new zcX7 zdfX7 zwX11_30 zvX7 zjX7 (by decide +kernel) (by decide +kernel) (by decide +kernel) dX11_init_134 ?_
  refine z_tT (X := TT274) rfl ?_
  refine z_tS (X := SS143) rfl ?_
  refine z_tr (b := 137) (by decide +kernel) ?_
  refine z_dup dX11_init_137 rfl ?_
  refine z_callI (ci := 7) (As := []) rfl rfl zkX11_32 ziX7_init ⟨by decide +kernel, by decide +kernel⟩ ck42 rfl rfl (Nat.le_of_ble_eq_true rfl) (by decide) ⟨(by decide +kernel), (by decide +kernel)⟩ ⟨(by decide +kernel), (by decide +kernel)⟩ dX11_init_138 ?_
  refine z_aast (kd := 26) (n := 4) zcX7 ⟨by decide +kernel, by decide +kernel, by decide +kernel⟩ (by decide) (fun _ => rfl) ⟨by decide +kernel, by decide +kernel⟩ (zin_ok (by decide +kernel)) dX11_init_141 ?_
  refine z_tT (X := TT281) rfl ?_
  refine z_iinc (r := 3) dX11_init_142 rfl (by decide) rfl (by decide) rfl ?_
  refine z_goto (tgt := 111) dX11_init_145 (by decide) ?_
  refine z_iload_n dX11_init_111 rfl ?_
  refine z_iconst (r := 4) dX11_init_112 (by decide) ?_
  refine z_icmp_ge (tgt := 148) dX11_init_113 (by decide) (fun q => absurd q (by decide)) (fun _ => ?_)
  refine z_aload_n dX11_init_116 rfl ?_
  refine z_gA (zF.x zfX11_44) ⟨by decide +kernel, by decide +kernel⟩ dX11_init_117 ?_
  refine z_tr (b := 76) (by decide +kernel) ?_
  refine z_iload_n dX11_init_120 rfl ?_
  refine z_new zcX0 zdfX0 zwX11_20 zvX0 zjX0 (by decide +kernel) (by decide +kernel) (by decide +kernel) dX11_init_121 ?_
  refine z_tT (X := TT282) rfl ?_
  refine z_tS (X := SS147) rfl ?_
  refine z_tr (b := 141) (by decide +kernel) ?_
  refine z_dup dX11_init_124 rfl ?_
  refine z_callI (ci := 0) (As := []) rfl rfl zkX11_22 ziX0_init ⟨by decide +kernel, by decide +kernel⟩ ck47 rfl rfl (Nat.le_of_ble_eq_true rfl) (by decide) ⟨(by decide +kernel), (by decide +kernel)⟩ ⟨(by decide +kernel), (by decide +kernel)⟩ dX11_init_125 ?_
  refine z_aast (kd := 25) (n := 4) zcX0 ⟨by decide +kernel, by decide +kernel, by decide +kernel⟩ (by decide) (fun _ => rfl) ⟨by decide +kernel, by decide +kernel⟩ (zin_ok (by decide +kernel)) dX11_init_128 ?_
  refine z_tT (X := TT315) rfl ?_
  refine z_aload_n dX11_init_129 rfl ?_
  refine z_gA (zF.x zfX11_48) ⟨by decide +kernel, by decide +kernel⟩ dX11_init_130 ?_
  refine z_tr (b := 77) (by decide +kernel) ?_
  refine z_iload_n dX11_init_133 rfl ?_
  refine z_new zcX7 zdfX7 zwX11_30 zvX7 zjX7 (by decide +kernel) (by decide +kernel) (by decide +kernel) dX11_init_134 ?_
  refine z_tT (X := TT316) rfl ?_
  refine z_tS (X := SS165) rfl ?_
  refine z_tr (b := 158) (by decide +kernel) ?_
  refine z_dup dX11_init_137 rfl ?_
  refine z_callI (ci := 7) (As := []) rfl rfl zkX11_32 ziX7_init ⟨by decide +kernel, by decide +kernel⟩ ck48 rfl rfl (Nat.le_of_ble_eq_true rfl) (by decide) ⟨(by decide +kernel), (by decide +kernel)⟩ ⟨(by decide +kernel), (by decide +kernel)⟩ dX11_init_138 ?_
  refine z_aast (kd := 26) (n := 4) zcX7 ⟨by decide +kernel, by decide +kernel, by decide +kernel⟩ (by decide) (fun _ => rfl) ⟨by decide +kernel, by decide +kernel⟩ (zin_ok (by decide +kernel)) dX11_init_141 ?_
  refine z_tT (X := TT323) rfl ?_
  refine z_iinc (r := 4) dX11_init_142 rfl (by decide) rfl (by decide) rfl ?_
  refine z_goto (tgt := 111) dX11_init_145 (by decide) ?_
  refine z_iload_n dX11_init_111 rfl ?_
  refine z_iconst (r := 4) dX11_init_112 (by decide) ?_
  refine z_icmp_ge (tgt := 148) dX11_init_113 (by decide) (fun _ => ?_) (fun q => absurd (by decide) q)
  refine z_aload_n dX11_init_148 rfl ?_
  refine z_iconst (r := 4) dX11_init_149 (by decide) ?_
  refine z_newA (at0 := .boolean) (ty := .boolean) (kd := 22) (N := 4) rfl zac_boolean (Or.inr (Or.inr (Or.inl ⟨rfl, rfl⟩))) (by decide) (by decide) (by decide) (by decide +kernel) (by decide +kernel) (by decide +kernel) dX11_init_150 ?_
  refine z_tT (X := TT324) rfl ?_
  refine z_tS (X := SS169) rfl ?_
  refine z_tr (b := 162) (by decide +kernel) ?_
  refine z_putR zfX11_52 (Or.inr ⟨_, rfl⟩) (fun _ => rfl) ⟨by decide +kernel, by decide +kernel⟩ dX11_init_152 ?_
  refine z_tT (X := TT325) rfl ?_
  refine z_aload_n dX11_init_155 rfl ?_
  refine z_new zcX9 zdfX9 zwX11_56 zvX9 zjX9 (by decide +kernel) (by decide +kernel) (by decide +kernel) dX11_init_156 ?_
  refine z_tT (X := TT326) rfl ?_
  refine z_tS (X := SS170) rfl ?_
  refine z_tr (b := 163) (by decide +kernel) ?_
  refine z_dup dX11_init_159 rfl ?_
  refine z_callI (ci := 9) (As := []) rfl rfl zkX11_58 ziX9_init ⟨by decide +kernel, by decide +kernel⟩ ck49 rfl rfl (Nat.le_of_ble_eq_true rfl) (by decide) ⟨(by decide +kernel), (by decide +kernel)⟩ ⟨(by decide +kernel), (by decide +kernel)⟩ dX11_init_160 ?_
  refine z_putR zfX11_59 (Or.inl ⟨_, rfl⟩) (fun _ => rfl) ⟨by decide +kernel, by decide +kernel⟩ dX11_init_163 ?_
  refine z_tT (X := TT331) rfl ?_
  refine z_aload_n dX11_init_166 rfl ?_
  refine z_new zcX4 zdfX4 zwX11_63 zvX4 zjX4 (by decide +kernel) (by decide +kernel) (by decide +kernel) dX11_init_167 ?_
  refine z_tT (X := TT332) rfl ?_
  refine z_tS (X := SS173) rfl ?_
  refine z_tr (b := 166) (by decide +kernel) ?_
  refine z_dup dX11_init_170 rfl ?_
  refine z_aload_n dX11_init_171 rfl ?_
  refine z_gR (zF.x zfX11_23) ⟨by decide +kernel, by decide +kernel⟩ dX11_init_172 ?_
  refine z_tr (b := 7) (by decide +kernel) ?_
  refine z_aload_n dX11_init_175 rfl ?_
  refine z_gR (zF.x zfX11_59) ⟨by decide +kernel, by decide +kernel⟩ dX11_init_176 ?_
  refine z_tr (b := 163) (by decide +kernel) ?_
  refine z_callI (ci := 4) (As := [.ref 7, .ref 163]) rfl rfl zkX11_65 ziX4_init ⟨by decide +kernel, by decide +kernel⟩ ck51 rfl rfl (Nat.le_of_ble_eq_true rfl) (by decide) ⟨(by decide +kernel), (by decide +kernel)⟩ ⟨(by decide +kernel), (by decide +kernel)⟩ dX11_init_179 ?_
  refine z_putR zfX11_68 (Or.inl ⟨_, rfl⟩) (fun _ => rfl) ⟨by decide +kernel, by decide +kernel⟩ dX11_init_182 ?_
  refine z_tT (X := TT353) rfl ?_
  refine z_aload_n dX11_init_185 rfl ?_
  refine z_new zcX5 zdfX5 zwX11_72 zvX5 zjX5 (by decide +kernel) (by decide +kernel) (by decide +kernel) dX11_init_186 ?_
  refine z_tT (X := TT354) rfl ?_
  refine z_tS (X := SS183) rfl ?_
  refine z_tr (b := 176) (by decide +kernel) ?_
  refine z_dup dX11_init_189 rfl ?_
  refine z_aload_n dX11_init_190 rfl ?_
  refine z_gR (zF.x zfX11_23) ⟨by decide +kernel, by decide +kernel⟩ dX11_init_191 ?_
  refine z_tr (b := 7) (by decide +kernel) ?_
  refine z_aload_n dX11_init_194 rfl ?_
  refine z_gR (zF.x zfX11_59) ⟨by decide +kernel, by decide +kernel⟩ dX11_init_195 ?_
  refine z_tr (b := 163) (by decide +kernel) ?_
  refine z_callI (ci := 5) (As := [.ref 7, .ref 163]) rfl rfl zkX11_74 ziX5_init ⟨by decide +kernel, by decide +kernel⟩ ck52 rfl rfl (Nat.le_of_ble_eq_true rfl) (by decide) ⟨(by decide +kernel), (by decide +kernel)⟩ ⟨(by decide +kernel), (by decide +kernel)⟩ dX11_init_198 ?_
  refine z_putR zfX11_75 (Or.inl ⟨_, rfl⟩) (fun _ => rfl) ⟨by decide +kernel, by decide +kernel⟩ dX11_init_201 ?_
  refine z_tT (X := TT373) rfl ?_
  refine z_aload_n dX11_init_204 rfl ?_
  refine z_new zcX3 zdfX3 zwX11_79 zvX3 zjX3 (by decide +kernel) (by decide +kernel) (by decide +kernel) dX11_init_205 ?_
  refine z_tT (X := TT374) rfl ?_
  refine z_tS (X := SS192) rfl ?_
  refine z_tr (b := 185) (by decide +kernel) ?_
  refine z_dup dX11_init_208 rfl ?_
  refine z_callI (ci := 3) (As := []) rfl rfl zkX11_81 ziX3_init ⟨by decide +kernel, by decide +kernel⟩ ck53 rfl rfl (Nat.le_of_ble_eq_true rfl) (by decide) ⟨(by decide +kernel), (by decide +kernel)⟩ ⟨(by decide +kernel), (by decide +kernel)⟩ dX11_init_209 ?_
  refine z_putR zfX11_82 (Or.inl ⟨_, rfl⟩) (fun _ => rfl) ⟨by decide +kernel, by decide +kernel⟩ dX11_init_212 ?_
  refine z_tT (X := TT375) rfl ?_
  refine z_aload_n dX11_init_215 rfl ?_
  refine z_bipush (r := 8) dX11_init_216 (by decide) ?_
  refine z_newA (at0 := .int) (ty := .int) (kd := 20) (N := 8) rfl zac_int (Or.inl ⟨rfl, rfl⟩) (by decide) (by decide) (by decide) (by decide +kernel) (by decide +kernel) (by decide +kernel) dX11_init_218 ?_
  refine z_tT (X := TT376) rfl ?_
  refine z_tS (X := SS193) rfl ?_
  refine z_tr (b := 186) (by decide +kernel) ?_
  refine z_putR zfX11_86 (Or.inr ⟨_, rfl⟩) (fun _ => rfl) ⟨by decide +kernel, by decide +kernel⟩ dX11_init_220 ?_
  refine z_tT (X := TT377) rfl ?_
  exact z_vret rfl dX11_init_223
def TT378 : zT := zNT TT377 12 0 68
noncomputable def SS194 : zS := zNS TT377 SS193
def TT379 : zT := zNT TT378 23 400 400
noncomputable def SS195 : zS := zNS TT378 SS194
def TT380 : zT := zQ TT379 187 11 188
def TT381 : zT := zNT TT380 20 2400 2400
noncomputable def SS196 : zS := zNS TT380 SS195
def TT382 : zT := zQ TT381 187 12 189
def TT383 : zT := zNT TT382 20 2400 2400
noncomputable def SS197 : zS := zNS TT382 SS196
def TT384 : zT := zQ TT383 187 13 190
def TT385 : zT := zNT TT384 20 8 8
noncomputable def SS198 : zS := zNS TT384 SS197
def TT386 : zT := zQ TT385 187 14 191
def TT387 : zT := zNT TT386 20 192 192
noncomputable def SS199 : zS := zNS TT386 SS198
def TT388 : zT := zQ TT387 187 15 192
def TT389 : zT := zNT TT388 20 192 192
noncomputable def SS200 : zS := zNS TT388 SS199
def TT390 : zT := zQ TT389 187 16 193
def TT391 : zT := zNT TT390 20 192 192
noncomputable def SS201 : zS := zNS TT390 SS200
def TT392 : zT := zQ TT391 187 17 194
def TT393 : zT := zNT TT392 20 192 192
noncomputable def SS202 : zS := zNS TT392 SS201
def TT394 : zT := zQ TT393 187 18 195
def TT395 : zT := zNT TT394 20 192 192
noncomputable def SS203 : zS := zNS TT394 SS202
def TT396 : zT := zQ TT395 187 19 196
def TT397 : zT := zNT TT396 20 192 192
noncomputable def SS204 : zS := zNS TT396 SS203
def TT398 : zT := zQ TT397 187 20 197
def TT399 : zT := zNT TT398 20 402 402
noncomputable def SS205 : zS := zNS TT398 SS204
def TT400 : zT := zQ TT399 187 21 198
def TT401 : zT := zNT TT400 20 16 16
noncomputable def SS206 : zS := zNS TT400 SS205
def TT402 : zT := zQ TT401 187 22 199
def TT403 : zT := zNT TT402 20 16 16
noncomputable def SS207 : zS := zNS TT402 SS206
def TT404 : zT := zQ TT403 187 23 200
def TT405 : zT := zNT TT404 20 16 16
noncomputable def SS208 : zS := zNS TT404 SS207
def TT406 : zT := zQ TT405 187 24 201
def TT407 : zT := zNT TT406 20 16 16
noncomputable def SS209 : zS := zNS TT406 SS208
def TT408 : zT := zQ TT407 187 25 202
def TT409 : zT := zNT TT408 20 16 16
noncomputable def SS210 : zS := zNS TT408 SS209
def TT410 : zT := zQ TT409 187 26 203
def TT411 : zT := zNT TT410 20 16 16
noncomputable def SS211 : zS := zNS TT410 SS210
def TT412 : zT := zQ TT411 187 27 204
def TT413 : zT := zNT TT412 20 16 16
noncomputable def SS212 : zS := zNS TT412 SS211
def TT414 : zT := zQ TT413 187 28 205
def TT415 : zT := zNT TT414 20 2 2
noncomputable def SS213 : zS := zNS TT414 SS212
def TT416 : zT := zQ TT415 187 29 206
def TT417 : zT := zNT TT416 20 2 2
noncomputable def SS214 : zS := zNS TT416 SS213
def TT418 : zT := zQ TT417 187 30 207
def TT419 : zT := zNT TT418 20 2 2
noncomputable def SS215 : zS := zNS TT418 SS214
def TT420 : zT := zQ TT419 187 31 208
def TT421 : zT := zNT TT420 20 2 2
noncomputable def SS216 : zS := zNS TT420 SS215
def TT422 : zT := zQ TT421 187 32 209
def TT423 : zT := zNT TT422 20 2 2
noncomputable def SS217 : zS := zNS TT422 SS216
def TT424 : zT := zQ TT423 187 33 210
def TT425 : zT := zNT TT424 21 9 9
noncomputable def SS218 : zS := zNS TT424 SS217
def TT426 : zT := zQ TT425 187 34 211
def TT427 : zT := zNT TT426 21 300 300
noncomputable def SS219 : zS := zNS TT426 SS218
def TT428 : zT := zQ TT427 187 35 212
def TT429 : zT := zNT TT428 20 60 60
noncomputable def SS220 : zS := zNS TT428 SS219
def TT430 : zT := zQ TT429 187 37 213
def TT431 : zT := zNT TT430 20 60 60
noncomputable def SS221 : zS := zNS TT430 SS220
def TT432 : zT := zQ TT431 187 38 214
def TT433 : zT := zNT TT432 20 60 60
noncomputable def SS222 : zS := zNS TT432 SS221
def TT434 : zT := zQ TT433 187 39 215
def TT435 : zT := zNT TT434 20 8 8
noncomputable def SS223 : zS := zNS TT434 SS222
def TT436 : zT := zQ TT435 187 40 216
def TT437 : zT := zNT TT436 20 8 8
noncomputable def SS224 : zS := zNS TT436 SS223
def TT438 : zT := zQ TT437 187 41 217
def TT439 : zT := zNT TT438 20 8 8
noncomputable def SS225 : zS := zNS TT438 SS224
def TT440 : zT := zQ TT439 187 42 218
def TT441 : zT := zNT TT440 20 8 8
noncomputable def SS226 : zS := zNS TT440 SS225
def TT442 : zT := zQ TT441 187 43 219
def TT443 : zT := zNT TT442 20 60 60
noncomputable def SS227 : zS := zNS TT442 SS226
def TT444 : zT := zQ TT443 187 44 220
def TT445 : zT := zNT TT444 20 60 60
noncomputable def SS228 : zS := zNS TT444 SS227
def TT446 : zT := zQ TT445 187 45 221
def TT447 : zT := zNT TT446 22 8 8
noncomputable def SS229 : zS := zNS TT446 SS228
def TT448 : zT := zQ TT447 187 46 222
def TT449 : zT := zNT TT448 20 15360 15360
noncomputable def SS230 : zS := zNS TT448 SS229
def TT450 : zT := zQ TT449 187 53 223
def TT451 : zT := zNT TT450 20 60 60
noncomputable def SS231 : zS := zNS TT450 SS230
def TT452 : zT := zQ TT451 187 60 224
def TT453 : zT := zNT TT452 20 8 8
noncomputable def SS232 : zS := zNS TT452 SS231
def TT454 : zT := zQ TT453 187 61 225
def TT455 : zT := zNT TT454 20 8 8
noncomputable def SS233 : zS := zNS TT454 SS232
def TT456 : zT := zQ TT455 187 62 226
def TT457 : zT := zNT TT456 20 3920 3920
noncomputable def SS234 : zS := zNS TT456 SS233
def TT458 : zT := zQ TT457 187 63 227
def TT459 : zT := zNT TT458 22 4 4
noncomputable def SS235 : zS := zNS TT458 SS234
def TT460 : zT := zQ TT459 187 64 228
def TT461 : zT := zNT TT460 20 1 1
noncomputable def SS236 : zS := zNS TT460 SS235
def TT462 : zT := zQ TT461 187 67 229
theorem fX12_at : iX12 TT462 187 := ⟨⟨by decide +kernel, by decide +kernel⟩, ⟨by decide +kernel, by decide +kernel, by decide +kernel⟩, ⟨by decide +kernel, by decide +kernel, by decide +kernel⟩, ⟨by decide +kernel, by decide +kernel, by decide +kernel⟩, ⟨by decide +kernel, by decide +kernel, by decide +kernel⟩, ⟨by decide +kernel, by decide +kernel, by decide +kernel⟩, ⟨by decide +kernel, by decide +kernel, by decide +kernel⟩, ⟨by decide +kernel, by decide +kernel, by decide +kernel⟩, ⟨by decide +kernel, by decide +kernel, by decide +kernel⟩, ⟨by decide +kernel, by decide +kernel, by decide +kernel⟩, ⟨by decide +kernel, by decide +kernel, by decide +kernel⟩, ⟨by decide +kernel, by decide +kernel, by decide +kernel⟩, ⟨by decide +kernel, by decide +kernel, by decide +kernel⟩, ⟨by decide +kernel, by decide +kernel, by decide +kernel⟩, ⟨by decide +kernel, by decide +kernel, by decide +kernel⟩, ⟨by decide +kernel, by decide +kernel, by decide +kernel⟩, ⟨by decide +kernel, by decide +kernel, by decide +kernel⟩, ⟨by decide +kernel, by decide +kernel, by decide +kernel⟩, ⟨by decide +kernel, by decide +kernel, by decide +kernel⟩, ⟨by decide +kernel, by decide +kernel, by decide +kernel⟩, ⟨by decide +kernel, by decide +kernel, by decide +kernel⟩, ⟨by decide +kernel, by decide +kernel, by decide +kernel⟩, ⟨by decide +kernel, by decide +kernel, by decide +kernel⟩, ⟨by decide +kernel, by decide +kernel, by decide +kernel⟩, ⟨by decide +kernel, by decide +kernel, by decide +kernel⟩, ⟨by decide +kernel, by decide +kernel, by decide +kernel⟩, ⟨by decide +kernel, by decide +kernel, by decide +kernel⟩, ⟨by decide +kernel, by decide +kernel, by decide +kernel⟩, ⟨by decide +kernel, by decide +kernel, by decide +kernel⟩, ⟨by decide +kernel, by decide +kernel, by decide +kernel⟩, ⟨by decide +kernel, by decide +kernel, by decide +kernel⟩, ⟨by decide +kernel, by decide +kernel, by decide +kernel⟩, ⟨by decide +kernel, by decide +kernel, by decide +kernel⟩, ⟨by decide +kernel, by decide +kernel, by decide +kernel⟩, ⟨by decide +kernel, by decide +kernel, by decide +kernel⟩, ⟨by decide +kernel, by decide +kernel, by decide +kernel⟩, ⟨by decide +kernel, by decide +kernel, by decide +kernel⟩, ⟨by decide +kernel, by decide +kernel, by decide +kernel⟩, ⟨by decide +kernel, by decide +kernel, by decide +kernel⟩, ⟨by decide +kernel, by decide +kernel, by decide +kernel⟩, ⟨by decide +kernel, by decide +kernel, by decide +kernel⟩, ⟨by decide +kernel, by decide +kernel, by decide +kernel⟩, ⟨by decide +kernel, by decide +kernel, by decide +kernel⟩⟩
set_option maxHeartbeats 4000000 in
set_option maxRecDepth 100000 in
theorem ck55 (r : Unit × zS) (hc : fX12_clears TT462 187 0 SS236 = some r) : zGM 1 mX12_init [.ref 187] TT378 SS194 none TT462 r.2 := by
  refine zGM_of zpnX12 rfl (Nat.le_of_ble_eq_true rfl) (fun g => ?_)
  show zg g 1 mX12_init TT378 0 [some (.ref 187)] [] TT378 SS194 none TT462 r.2
  refine z_aload_n dX12_init_0 rfl ?_
  refine z_objInit (by decide) zoX12_1 zoi_inst zoi_code (by decide) (Nat.le_of_ble_eq_true rfl) dX12_init_1 ?_
  refine z_aload_n dX12_init_4 rfl ?_
  refine z_sipush (r := 400) dX12_init_5 (by decide) ?_
  refine z_newA (at0 := .byte) (ty := .byte) (kd := 23) (N := 400) rfl zac_byte (Or.inr (Or.inr (Or.inr ⟨rfl, rfl⟩))) (by decide) (by decide) (by decide) (by decide +kernel) (by decide +kernel) (by decide +kernel) dX12_init_8 ?_
  refine z_tT (X := TT379) rfl ?_
  refine z_tS (X := SS195) rfl ?_
  refine z_tr (b := 188) (by decide +kernel) ?_
  refine z_putR zfX12_9 (Or.inr ⟨_, rfl⟩) (fun _ => rfl) ⟨by decide +kernel, by decide +kernel⟩ dX12_init_10 ?_
  refine z_tT (X := TT380) rfl ?_
  refine z_aload_n dX12_init_13 rfl ?_
  refine z_sipush (r := 2400) dX12_init_14 (by decide) ?_
  refine z_newA (at0 := .int) (ty := .int) (kd := 20) (N := 2400) rfl zac_int (Or.inl ⟨rfl, rfl⟩) (by decide) (by decide) (by decide) (by decide +kernel) (by decide +kernel) (by decide +kernel) dX12_init_17 ?_
  refine z_tT (X := TT381) rfl ?_
  refine z_tS (X := SS196) rfl ?_
  refine z_tr (b := 189) (by decide +kernel) ?_
  refine z_putR zfX12_13 (Or.inr ⟨_, rfl⟩) (fun _ => rfl) ⟨by decide +kernel, by decide +kernel⟩ dX12_init_19 ?_
  refine z_tT (X := TT382) rfl ?_
  refine z_aload_n dX12_init_22 rfl ?_
  refine z_sipush (r := 2400) dX12_init_23 (by decide) ?_
  refine z_newA (at0 := .int) (ty := .int) (kd := 20) (N := 2400) rfl zac_int (Or.inl ⟨rfl, rfl⟩) (by decide) (by decide) (by decide) (by decide +kernel) (by decide +kernel) (by decide +kernel) dX12_init_26 ?_
  refine z_tT (X := TT383) rfl ?_
  refine z_tS (X := SS197) rfl ?_
  refine z_tr (b := 190) (by decide +kernel) ?_
  refine z_putR zfX12_17 (Or.inr ⟨_, rfl⟩) (fun _ => rfl) ⟨by decide +kernel, by decide +kernel⟩ dX12_init_28 ?_
  refine z_tT (X := TT384) rfl ?_
  refine z_aload_n dX12_init_31 rfl ?_
  refine z_bipush (r := 8) dX12_init_32 (by decide) ?_
  refine z_newA (at0 := .int) (ty := .int) (kd := 20) (N := 8) rfl zac_int (Or.inl ⟨rfl, rfl⟩) (by decide) (by decide) (by decide) (by decide +kernel) (by decide +kernel) (by decide +kernel) dX12_init_34 ?_
  refine z_tT (X := TT385) rfl ?_
  refine z_tS (X := SS198) rfl ?_
  refine z_tr (b := 191) (by decide +kernel) ?_
  refine z_putR zfX12_20 (Or.inr ⟨_, rfl⟩) (fun _ => rfl) ⟨by decide +kernel, by decide +kernel⟩ dX12_init_36 ?_
  refine z_tT (X := TT386) rfl ?_
  refine z_aload_n dX12_init_39 rfl ?_
  refine z_sipush (r := 192) dX12_init_40 (by decide) ?_
  refine z_newA (at0 := .int) (ty := .int) (kd := 20) (N := 192) rfl zac_int (Or.inl ⟨rfl, rfl⟩) (by decide) (by decide) (by decide) (by decide +kernel) (by decide +kernel) (by decide +kernel) dX12_init_43 ?_
  refine z_tT (X := TT387) rfl ?_
  refine z_tS (X := SS199) rfl ?_
  refine z_tr (b := 192) (by decide +kernel) ?_
  refine z_putR zfX12_23 (Or.inr ⟨_, rfl⟩) (fun _ => rfl) ⟨by decide +kernel, by decide +kernel⟩ dX12_init_45 ?_
  refine z_tT (X := TT388) rfl ?_
  refine z_aload_n dX12_init_48 rfl ?_
  refine z_sipush (r := 192) dX12_init_49 (by decide) ?_
  refine z_newA (at0 := .int) (ty := .int) (kd := 20) (N := 192) rfl zac_int (Or.inl ⟨rfl, rfl⟩) (by decide) (by decide) (by decide) (by decide +kernel) (by decide +kernel) (by decide +kernel) dX12_init_52 ?_
  refine z_tT (X := TT389) rfl ?_
  refine z_tS (X := SS200) rfl ?_
  refine z_tr (b := 193) (by decide +kernel) ?_
  refine z_putR zfX12_26 (Or.inr ⟨_, rfl⟩) (fun _ => rfl) ⟨by decide +kernel, by decide +kernel⟩ dX12_init_54 ?_
  refine z_tT (X := TT390) rfl ?_
  refine z_aload_n dX12_init_57 rfl ?_
  refine z_sipush (r := 192) dX12_init_58 (by decide) ?_
  refine z_newA (at0 := .int) (ty := .int) (kd := 20) (N := 192) rfl zac_int (Or.inl ⟨rfl, rfl⟩) (by decide) (by decide) (by decide) (by decide +kernel) (by decide +kernel) (by decide +kernel) dX12_init_61 ?_
  refine z_tT (X := TT391) rfl ?_
  refine z_tS (X := SS201) rfl ?_
  refine z_tr (b := 194) (by decide +kernel) ?_
  refine z_putR zfX12_29 (Or.inr ⟨_, rfl⟩) (fun _ => rfl) ⟨by decide +kernel, by decide +kernel⟩ dX12_init_63 ?_
  refine z_tT (X := TT392) rfl ?_
  refine z_aload_n dX12_init_66 rfl ?_
  refine z_sipush (r := 192) dX12_init_67 (by decide) ?_
  refine z_newA (at0 := .int) (ty := .int) (kd := 20) (N := 192) rfl zac_int (Or.inl ⟨rfl, rfl⟩) (by decide) (by decide) (by decide) (by decide +kernel) (by decide +kernel) (by decide +kernel) dX12_init_70 ?_
  refine z_tT (X := TT393) rfl ?_
  refine z_tS (X := SS202) rfl ?_
  refine z_tr (b := 195) (by decide +kernel) ?_
  refine z_putR zfX12_32 (Or.inr ⟨_, rfl⟩) (fun _ => rfl) ⟨by decide +kernel, by decide +kernel⟩ dX12_init_72 ?_
  refine z_tT (X := TT394) rfl ?_
  refine z_aload_n dX12_init_75 rfl ?_
  refine z_sipush (r := 192) dX12_init_76 (by decide) ?_
  refine z_newA (at0 := .int) (ty := .int) (kd := 20) (N := 192) rfl zac_int (Or.inl ⟨rfl, rfl⟩) (by decide) (by decide) (by decide) (by decide +kernel) (by decide +kernel) (by decide +kernel) dX12_init_79 ?_
  refine z_tT (X := TT395) rfl ?_
  refine z_tS (X := SS203) rfl ?_
  refine z_tr (b := 196) (by decide +kernel) ?_
  refine z_putR zfX12_35 (Or.inr ⟨_, rfl⟩) (fun _ => rfl) ⟨by decide +kernel, by decide +kernel⟩ dX12_init_81 ?_
  refine z_tT (X := TT396) rfl ?_
  refine z_aload_n dX12_init_84 rfl ?_
  refine z_sipush (r := 192) dX12_init_85 (by decide) ?_
  refine z_newA (at0 := .int) (ty := .int) (kd := 20) (N := 192) rfl zac_int (Or.inl ⟨rfl, rfl⟩) (by decide) (by decide) (by decide) (by decide +kernel) (by decide +kernel) (by decide +kernel) dX12_init_88 ?_
  refine z_tT (X := TT397) rfl ?_
  refine z_tS (X := SS204) rfl ?_
  refine z_tr (b := 197) (by decide +kernel) ?_
  refine z_putR zfX12_38 (Or.inr ⟨_, rfl⟩) (fun _ => rfl) ⟨by decide +kernel, by decide +kernel⟩ dX12_init_90 ?_
  refine z_tT (X := TT398) rfl ?_
  refine z_aload_n dX12_init_93 rfl ?_
  refine z_sipush (r := 402) dX12_init_94 (by decide) ?_
  refine z_newA (at0 := .int) (ty := .int) (kd := 20) (N := 402) rfl zac_int (Or.inl ⟨rfl, rfl⟩) (by decide) (by decide) (by decide) (by decide +kernel) (by decide +kernel) (by decide +kernel) dX12_init_97 ?_
  refine z_tT (X := TT399) rfl ?_
  refine z_tS (X := SS205) rfl ?_
  refine z_tr (b := 198) (by decide +kernel) ?_
  refine z_putR zfX12_41 (Or.inr ⟨_, rfl⟩) (fun _ => rfl) ⟨by decide +kernel, by decide +kernel⟩ dX12_init_99 ?_
  refine z_tT (X := TT400) rfl ?_
  refine z_aload_n dX12_init_102 rfl ?_
  refine z_bipush (r := 16) dX12_init_103 (by decide) ?_
  refine z_newA (at0 := .int) (ty := .int) (kd := 20) (N := 16) rfl zac_int (Or.inl ⟨rfl, rfl⟩) (by decide) (by decide) (by decide) (by decide +kernel) (by decide +kernel) (by decide +kernel) dX12_init_105 ?_
  refine z_tT (X := TT401) rfl ?_
  refine z_tS (X := SS206) rfl ?_
  refine z_tr (b := 199) (by decide +kernel) ?_
  refine z_putR zfX12_44 (Or.inr ⟨_, rfl⟩) (fun _ => rfl) ⟨by decide +kernel, by decide +kernel⟩ dX12_init_107 ?_
  refine z_tT (X := TT402) rfl ?_
  refine z_aload_n dX12_init_110 rfl ?_
  refine z_bipush (r := 16) dX12_init_111 (by decide) ?_
  refine z_newA (at0 := .int) (ty := .int) (kd := 20) (N := 16) rfl zac_int (Or.inl ⟨rfl, rfl⟩) (by decide) (by decide) (by decide) (by decide +kernel) (by decide +kernel) (by decide +kernel) dX12_init_113 ?_
  refine z_tT (X := TT403) rfl ?_
  refine z_tS (X := SS207) rfl ?_
  refine z_tr (b := 200) (by decide +kernel) ?_
  refine z_putR zfX12_47 (Or.inr ⟨_, rfl⟩) (fun _ => rfl) ⟨by decide +kernel, by decide +kernel⟩ dX12_init_115 ?_
  refine z_tT (X := TT404) rfl ?_
  refine z_aload_n dX12_init_118 rfl ?_
  refine z_bipush (r := 16) dX12_init_119 (by decide) ?_
  refine z_newA (at0 := .int) (ty := .int) (kd := 20) (N := 16) rfl zac_int (Or.inl ⟨rfl, rfl⟩) (by decide) (by decide) (by decide) (by decide +kernel) (by decide +kernel) (by decide +kernel) dX12_init_121 ?_
  refine z_tT (X := TT405) rfl ?_
  refine z_tS (X := SS208) rfl ?_
  refine z_tr (b := 201) (by decide +kernel) ?_
  refine z_putR zfX12_50 (Or.inr ⟨_, rfl⟩) (fun _ => rfl) ⟨by decide +kernel, by decide +kernel⟩ dX12_init_123 ?_
  refine z_tT (X := TT406) rfl ?_
  refine z_aload_n dX12_init_126 rfl ?_
  refine z_bipush (r := 16) dX12_init_127 (by decide) ?_
  refine z_newA (at0 := .int) (ty := .int) (kd := 20) (N := 16) rfl zac_int (Or.inl ⟨rfl, rfl⟩) (by decide) (by decide) (by decide) (by decide +kernel) (by decide +kernel) (by decide +kernel) dX12_init_129 ?_
  refine z_tT (X := TT407) rfl ?_
  refine z_tS (X := SS209) rfl ?_
  refine z_tr (b := 202) (by decide +kernel) ?_
  refine z_putR zfX12_53 (Or.inr ⟨_, rfl⟩) (fun _ => rfl) ⟨by decide +kernel, by decide +kernel⟩ dX12_init_131 ?_
  refine z_tT (X := TT408) rfl ?_
  refine z_aload_n dX12_init_134 rfl ?_
  refine z_bipush (r := 16) dX12_init_135 (by decide) ?_
  refine z_newA (at0 := .int) (ty := .int) (kd := 20) (N := 16) rfl zac_int (Or.inl ⟨rfl, rfl⟩) (by decide) (by decide) (by decide) (by decide +kernel) (by decide +kernel) (by decide +kernel) dX12_init_137 ?_
  refine z_tT (X := TT409) rfl ?_
  refine z_tS (X := SS210) rfl ?_
  refine z_tr (b := 203) (by decide +kernel) ?_
  refine z_putR zfX12_56 (Or.inr ⟨_, rfl⟩) (fun _ => rfl) ⟨by decide +kernel, by decide +kernel⟩ dX12_init_139 ?_
  refine z_tT (X := TT410) rfl ?_
  refine z_aload_n dX12_init_142 rfl ?_
  refine z_bipush (r := 16) dX12_init_143 (by decide) ?_
  refine z_newA (at0 := .int) (ty := .int) (kd := 20) (N := 16) rfl zac_int (Or.inl ⟨rfl, rfl⟩) (by decide) (by decide) (by decide) (by decide +kernel) (by decide +kernel) (by decide +kernel) dX12_init_145 ?_
  refine z_tT (X := TT411) rfl ?_
  refine z_tS (X := SS211) rfl ?_
  refine z_tr (b := 204) (by decide +kernel) ?_
  refine z_putR zfX12_59 (Or.inr ⟨_, rfl⟩) (fun _ => rfl) ⟨by decide +kernel, by decide +kernel⟩ dX12_init_147 ?_
  refine z_tT (X := TT412) rfl ?_
  refine z_aload_n dX12_init_150 rfl ?_
  refine z_bipush (r := 16) dX12_init_151 (by decide) ?_
  refine z_newA (at0 := .int) (ty := .int) (kd := 20) (N := 16) rfl zac_int (Or.inl ⟨rfl, rfl⟩) (by decide) (by decide) (by decide) (by decide +kernel) (by decide +kernel) (by decide +kernel) dX12_init_153 ?_
  refine z_tT (X := TT413) rfl ?_
  refine z_tS (X := SS212) rfl ?_
  refine z_tr (b := 205) (by decide +kernel) ?_
  refine z_putR zfX12_62 (Or.inr ⟨_, rfl⟩) (fun _ => rfl) ⟨by decide +kernel, by decide +kernel⟩ dX12_init_155 ?_
  refine z_tT (X := TT414) rfl ?_
  refine z_aload_n dX12_init_158 rfl ?_
  refine z_iconst (r := 2) dX12_init_159 (by decide) ?_
  refine z_newA (at0 := .int) (ty := .int) (kd := 20) (N := 2) rfl zac_int (Or.inl ⟨rfl, rfl⟩) (by decide) (by decide) (by decide) (by decide +kernel) (by decide +kernel) (by decide +kernel) dX12_init_160 ?_
  refine z_tT (X := TT415) rfl ?_
  refine z_tS (X := SS213) rfl ?_
  refine z_tr (b := 206) (by decide +kernel) ?_
  refine z_putR zfX12_65 (Or.inr ⟨_, rfl⟩) (fun _ => rfl) ⟨by decide +kernel, by decide +kernel⟩ dX12_init_162 ?_
  refine z_tT (X := TT416) rfl ?_
  refine z_aload_n dX12_init_165 rfl ?_
  refine z_iconst (r := 2) dX12_init_166 (by decide) ?_
  refine z_newA (at0 := .int) (ty := .int) (kd := 20) (N := 2) rfl zac_int (Or.inl ⟨rfl, rfl⟩) (by decide) (by decide) (by decide) (by decide +kernel) (by decide +kernel) (by decide +kernel) dX12_init_167 ?_
  refine z_tT (X := TT417) rfl ?_
  refine z_tS (X := SS214) rfl ?_
  refine z_tr (b := 207) (by decide +kernel) ?_
  refine z_putR zfX12_68 (Or.inr ⟨_, rfl⟩) (fun _ => rfl) ⟨by decide +kernel, by decide +kernel⟩ dX12_init_169 ?_
  refine z_tT (X := TT418) rfl ?_
  refine z_aload_n dX12_init_172 rfl ?_
  refine z_iconst (r := 2) dX12_init_173 (by decide) ?_
  refine z_newA (at0 := .int) (ty := .int) (kd := 20) (N := 2) rfl zac_int (Or.inl ⟨rfl, rfl⟩) (by decide) (by decide) (by decide) (by decide +kernel) (by decide +kernel) (by decide +kernel) dX12_init_174 ?_
  refine z_tT (X := TT419) rfl ?_
  refine z_tS (X := SS215) rfl ?_
  refine z_tr (b := 208) (by decide +kernel) ?_
  refine z_putR zfX12_71 (Or.inr ⟨_, rfl⟩) (fun _ => rfl) ⟨by decide +kernel, by decide +kernel⟩ dX12_init_176 ?_
  refine z_tT (X := TT420) rfl ?_
  refine z_aload_n dX12_init_179 rfl ?_
  refine z_iconst (r := 2) dX12_init_180 (by decide) ?_
  refine z_newA (at0 := .int) (ty := .int) (kd := 20) (N := 2) rfl zac_int (Or.inl ⟨rfl, rfl⟩) (by decide) (by decide) (by decide) (by decide +kernel) (by decide +kernel) (by decide +kernel) dX12_init_181 ?_
  refine z_tT (X := TT421) rfl ?_
  refine z_tS (X := SS216) rfl ?_
  refine z_tr (b := 209) (by decide +kernel) ?_
  refine z_putR zfX12_74 (Or.inr ⟨_, rfl⟩) (fun _ => rfl) ⟨by decide +kernel, by decide +kernel⟩ dX12_init_183 ?_
  refine z_tT (X := TT422) rfl ?_
  refine z_aload_n dX12_init_186 rfl ?_
  refine z_iconst (r := 2) dX12_init_187 (by decide) ?_
  refine z_newA (at0 := .int) (ty := .int) (kd := 20) (N := 2) rfl zac_int (Or.inl ⟨rfl, rfl⟩) (by decide) (by decide) (by decide) (by decide +kernel) (by decide +kernel) (by decide +kernel) dX12_init_188 ?_
  refine z_tT (X := TT423) rfl ?_
  refine z_tS (X := SS217) rfl ?_
  refine z_tr (b := 210) (by decide +kernel) ?_
  refine z_putR zfX12_77 (Or.inr ⟨_, rfl⟩) (fun _ => rfl) ⟨by decide +kernel, by decide +kernel⟩ dX12_init_190 ?_
  refine z_tT (X := TT424) rfl ?_
  refine z_aload_n dX12_init_193 rfl ?_
  refine z_bipush (r := 9) dX12_init_194 (by decide) ?_
  refine z_newA (at0 := .long) (ty := .long) (kd := 21) (N := 9) rfl zac_long (Or.inr (Or.inl ⟨rfl, rfl⟩)) (by decide) (by decide) (by decide) (by decide +kernel) (by decide +kernel) (by decide +kernel) dX12_init_196 ?_
  refine z_tT (X := TT425) rfl ?_
  refine z_tS (X := SS218) rfl ?_
  refine z_tr (b := 211) (by decide +kernel) ?_
  refine z_putR zfX12_80 (Or.inr ⟨_, rfl⟩) (fun _ => rfl) ⟨by decide +kernel, by decide +kernel⟩ dX12_init_198 ?_
  refine z_tT (X := TT426) rfl ?_
  refine z_aload_n dX12_init_201 rfl ?_
  refine z_sipush (r := 300) dX12_init_202 (by decide) ?_
  refine z_newA (at0 := .long) (ty := .long) (kd := 21) (N := 300) rfl zac_long (Or.inr (Or.inl ⟨rfl, rfl⟩)) (by decide) (by decide) (by decide) (by decide +kernel) (by decide +kernel) (by decide +kernel) dX12_init_205 ?_
  refine z_tT (X := TT427) rfl ?_
  refine z_tS (X := SS219) rfl ?_
  refine z_tr (b := 212) (by decide +kernel) ?_
  refine z_putR zfX12_84 (Or.inr ⟨_, rfl⟩) (fun _ => rfl) ⟨by decide +kernel, by decide +kernel⟩ dX12_init_207 ?_
  refine z_tT (X := TT428) rfl ?_
  refine z_aload_n dX12_init_210 rfl ?_
  refine z_bipush (r := 60) dX12_init_211 (by decide) ?_
  refine z_newA (at0 := .int) (ty := .int) (kd := 20) (N := 60) rfl zac_int (Or.inl ⟨rfl, rfl⟩) (by decide) (by decide) (by decide) (by decide +kernel) (by decide +kernel) (by decide +kernel) dX12_init_213 ?_
  refine z_tT (X := TT429) rfl ?_
  refine z_tS (X := SS220) rfl ?_
  refine z_tr (b := 213) (by decide +kernel) ?_
  refine z_putR zfX12_87 (Or.inr ⟨_, rfl⟩) (fun _ => rfl) ⟨by decide +kernel, by decide +kernel⟩ dX12_init_215 ?_
  refine z_tT (X := TT430) rfl ?_
  refine z_aload_n dX12_init_218 rfl ?_
  refine z_bipush (r := 60) dX12_init_219 (by decide) ?_
  refine z_newA (at0 := .int) (ty := .int) (kd := 20) (N := 60) rfl zac_int (Or.inl ⟨rfl, rfl⟩) (by decide) (by decide) (by decide) (by decide +kernel) (by decide +kernel) (by decide +kernel) dX12_init_221 ?_
  refine z_tT (X := TT431) rfl ?_
  refine z_tS (X := SS221) rfl ?_
  refine z_tr (b := 214) (by decide +kernel) ?_
  refine z_putR zfX12_90 (Or.inr ⟨_, rfl⟩) (fun _ => rfl) ⟨by decide +kernel, by decide +kernel⟩ dX12_init_223 ?_
  refine z_tT (X := TT432) rfl ?_
  refine z_aload_n dX12_init_226 rfl ?_
  refine z_bipush (r := 60) dX12_init_227 (by decide) ?_
  refine z_newA (at0 := .int) (ty := .int) (kd := 20) (N := 60) rfl zac_int (Or.inl ⟨rfl, rfl⟩) (by decide) (by decide) (by decide) (by decide +kernel) (by decide +kernel) (by decide +kernel) dX12_init_229 ?_
  refine z_tT (X := TT433) rfl ?_
  refine z_tS (X := SS222) rfl ?_
  refine z_tr (b := 215) (by decide +kernel) ?_
  refine z_putR zfX12_93 (Or.inr ⟨_, rfl⟩) (fun _ => rfl) ⟨by decide +kernel, by decide +kernel⟩ dX12_init_231 ?_
  refine z_tT (X := TT434) rfl ?_
  refine z_aload_n dX12_init_234 rfl ?_
  refine z_bipush (r := 8) dX12_init_235 (by decide) ?_
  refine z_newA (at0 := .int) (ty := .int) (kd := 20) (N := 8) rfl zac_int (Or.inl ⟨rfl, rfl⟩) (by decide) (by decide) (by decide) (by decide +kernel) (by decide +kernel) (by decide +kernel) dX12_init_237 ?_
  refine z_tT (X := TT435) rfl ?_
  refine z_tS (X := SS223) rfl ?_
  refine z_tr (b := 216) (by decide +kernel) ?_
  refine z_putR zfX12_96 (Or.inr ⟨_, rfl⟩) (fun _ => rfl) ⟨by decide +kernel, by decide +kernel⟩ dX12_init_239 ?_
  refine z_tT (X := TT436) rfl ?_
  refine z_aload_n dX12_init_242 rfl ?_
  refine z_bipush (r := 8) dX12_init_243 (by decide) ?_
  refine z_newA (at0 := .int) (ty := .int) (kd := 20) (N := 8) rfl zac_int (Or.inl ⟨rfl, rfl⟩) (by decide) (by decide) (by decide) (by decide +kernel) (by decide +kernel) (by decide +kernel) dX12_init_245 ?_
  refine z_tT (X := TT437) rfl ?_
  refine z_tS (X := SS224) rfl ?_
  refine z_tr (b := 217) (by decide +kernel) ?_
  refine z_putR zfX12_99 (Or.inr ⟨_, rfl⟩) (fun _ => rfl) ⟨by decide +kernel, by decide +kernel⟩ dX12_init_247 ?_
  refine z_tT (X := TT438) rfl ?_
  refine z_aload_n dX12_init_250 rfl ?_
  refine z_bipush (r := 8) dX12_init_251 (by decide) ?_
  refine z_newA (at0 := .int) (ty := .int) (kd := 20) (N := 8) rfl zac_int (Or.inl ⟨rfl, rfl⟩) (by decide) (by decide) (by decide) (by decide +kernel) (by decide +kernel) (by decide +kernel) dX12_init_253 ?_
  refine z_tT (X := TT439) rfl ?_
  refine z_tS (X := SS225) rfl ?_
  refine z_tr (b := 218) (by decide +kernel) ?_
  refine z_putR zfX12_102 (Or.inr ⟨_, rfl⟩) (fun _ => rfl) ⟨by decide +kernel, by decide +kernel⟩ dX12_init_255 ?_
  refine z_tT (X := TT440) rfl ?_
  refine z_aload_n dX12_init_258 rfl ?_
  refine z_bipush (r := 8) dX12_init_259 (by decide) ?_
  refine z_newA (at0 := .int) (ty := .int) (kd := 20) (N := 8) rfl zac_int (Or.inl ⟨rfl, rfl⟩) (by decide) (by decide) (by decide) (by decide +kernel) (by decide +kernel) (by decide +kernel) dX12_init_261 ?_
  refine z_tT (X := TT441) rfl ?_
  refine z_tS (X := SS226) rfl ?_
  refine z_tr (b := 219) (by decide +kernel) ?_
  refine z_putR zfX12_105 (Or.inr ⟨_, rfl⟩) (fun _ => rfl) ⟨by decide +kernel, by decide +kernel⟩ dX12_init_263 ?_
  refine z_tT (X := TT442) rfl ?_
  refine z_aload_n dX12_init_266 rfl ?_
  refine z_bipush (r := 60) dX12_init_267 (by decide) ?_
  refine z_newA (at0 := .int) (ty := .int) (kd := 20) (N := 60) rfl zac_int (Or.inl ⟨rfl, rfl⟩) (by decide) (by decide) (by decide) (by decide +kernel) (by decide +kernel) (by decide +kernel) dX12_init_269 ?_
  refine z_tT (X := TT443) rfl ?_
  refine z_tS (X := SS227) rfl ?_
  refine z_tr (b := 220) (by decide +kernel) ?_
  refine z_putR zfX12_108 (Or.inr ⟨_, rfl⟩) (fun _ => rfl) ⟨by decide +kernel, by decide +kernel⟩ dX12_init_271 ?_
  refine z_tT (X := TT444) rfl ?_
  refine z_aload_n dX12_init_274 rfl ?_
  refine z_bipush (r := 60) dX12_init_275 (by decide) ?_
  refine z_newA (at0 := .int) (ty := .int) (kd := 20) (N := 60) rfl zac_int (Or.inl ⟨rfl, rfl⟩) (by decide) (by decide) (by decide) (by decide +kernel) (by decide +kernel) (by decide +kernel) dX12_init_277 ?_
  refine z_tT (X := TT445) rfl ?_
  refine z_tS (X := SS228) rfl ?_
  refine z_tr (b := 221) (by decide +kernel) ?_
  refine z_putR zfX12_111 (Or.inr ⟨_, rfl⟩) (fun _ => rfl) ⟨by decide +kernel, by decide +kernel⟩ dX12_init_279 ?_
  refine z_tT (X := TT446) rfl ?_
  refine z_aload_n dX12_init_282 rfl ?_
  refine z_bipush (r := 8) dX12_init_283 (by decide) ?_
  refine z_newA (at0 := .boolean) (ty := .boolean) (kd := 22) (N := 8) rfl zac_boolean (Or.inr (Or.inr (Or.inl ⟨rfl, rfl⟩))) (by decide) (by decide) (by decide) (by decide +kernel) (by decide +kernel) (by decide +kernel) dX12_init_285 ?_
  refine z_tT (X := TT447) rfl ?_
  refine z_tS (X := SS229) rfl ?_
  refine z_tr (b := 222) (by decide +kernel) ?_
  refine z_putR zfX12_114 (Or.inr ⟨_, rfl⟩) (fun _ => rfl) ⟨by decide +kernel, by decide +kernel⟩ dX12_init_287 ?_
  refine z_tT (X := TT448) rfl ?_
  refine z_aload_n dX12_init_290 rfl ?_
  refine z_sipush (r := 15360) dX12_init_291 (by decide) ?_
  refine z_newA (at0 := .int) (ty := .int) (kd := 20) (N := 15360) rfl zac_int (Or.inl ⟨rfl, rfl⟩) (by decide) (by decide) (by decide) (by decide +kernel) (by decide +kernel) (by decide +kernel) dX12_init_294 ?_
  refine z_tT (X := TT449) rfl ?_
  refine z_tS (X := SS230) rfl ?_
  refine z_tr (b := 223) (by decide +kernel) ?_
  refine z_putR zfX12_118 (Or.inr ⟨_, rfl⟩) (fun _ => rfl) ⟨by decide +kernel, by decide +kernel⟩ dX12_init_296 ?_
  refine z_tT (X := TT450) rfl ?_
  refine z_aload_n dX12_init_299 rfl ?_
  refine z_bipush (r := 60) dX12_init_300 (by decide) ?_
  refine z_newA (at0 := .int) (ty := .int) (kd := 20) (N := 60) rfl zac_int (Or.inl ⟨rfl, rfl⟩) (by decide) (by decide) (by decide) (by decide +kernel) (by decide +kernel) (by decide +kernel) dX12_init_302 ?_
  refine z_tT (X := TT451) rfl ?_
  refine z_tS (X := SS231) rfl ?_
  refine z_tr (b := 224) (by decide +kernel) ?_
  refine z_putR zfX12_121 (Or.inr ⟨_, rfl⟩) (fun _ => rfl) ⟨by decide +kernel, by decide +kernel⟩ dX12_init_304 ?_
  refine z_tT (X := TT452) rfl ?_
  refine z_aload_n dX12_init_307 rfl ?_
  refine z_bipush (r := 8) dX12_init_308 (by decide) ?_
  refine z_newA (at0 := .int) (ty := .int) (kd := 20) (N := 8) rfl zac_int (Or.inl ⟨rfl, rfl⟩) (by decide) (by decide) (by decide) (by decide +kernel) (by decide +kernel) (by decide +kernel) dX12_init_310 ?_
  refine z_tT (X := TT453) rfl ?_
  refine z_tS (X := SS232) rfl ?_
  refine z_tr (b := 225) (by decide +kernel) ?_
  refine z_putR zfX12_124 (Or.inr ⟨_, rfl⟩) (fun _ => rfl) ⟨by decide +kernel, by decide +kernel⟩ dX12_init_312 ?_
  refine z_tT (X := TT454) rfl ?_
  refine z_aload_n dX12_init_315 rfl ?_
  refine z_bipush (r := 8) dX12_init_316 (by decide) ?_
  refine z_newA (at0 := .int) (ty := .int) (kd := 20) (N := 8) rfl zac_int (Or.inl ⟨rfl, rfl⟩) (by decide) (by decide) (by decide) (by decide +kernel) (by decide +kernel) (by decide +kernel) dX12_init_318 ?_
  refine z_tT (X := TT455) rfl ?_
  refine z_tS (X := SS233) rfl ?_
  refine z_tr (b := 226) (by decide +kernel) ?_
  refine z_putR zfX12_127 (Or.inr ⟨_, rfl⟩) (fun _ => rfl) ⟨by decide +kernel, by decide +kernel⟩ dX12_init_320 ?_
  refine z_tT (X := TT456) rfl ?_
  refine z_aload_n dX12_init_323 rfl ?_
  refine z_sipush (r := 3920) dX12_init_324 (by decide) ?_
  refine z_newA (at0 := .int) (ty := .int) (kd := 20) (N := 3920) rfl zac_int (Or.inl ⟨rfl, rfl⟩) (by decide) (by decide) (by decide) (by decide +kernel) (by decide +kernel) (by decide +kernel) dX12_init_327 ?_
  refine z_tT (X := TT457) rfl ?_
  refine z_tS (X := SS234) rfl ?_
  refine z_tr (b := 227) (by decide +kernel) ?_
  refine z_putR zfX12_130 (Or.inr ⟨_, rfl⟩) (fun _ => rfl) ⟨by decide +kernel, by decide +kernel⟩ dX12_init_329 ?_
  refine z_tT (X := TT458) rfl ?_
  refine z_aload_n dX12_init_332 rfl ?_
  refine z_iconst (r := 4) dX12_init_333 (by decide) ?_
  refine z_newA (at0 := .boolean) (ty := .boolean) (kd := 22) (N := 4) rfl zac_boolean (Or.inr (Or.inr (Or.inl ⟨rfl, rfl⟩))) (by decide) (by decide) (by decide) (by decide +kernel) (by decide +kernel) (by decide +kernel) dX12_init_334 ?_
  refine z_tT (X := TT459) rfl ?_
  refine z_tS (X := SS235) rfl ?_
  refine z_tr (b := 228) (by decide +kernel) ?_
  refine z_putR zfX12_133 (Or.inr ⟨_, rfl⟩) (fun _ => rfl) ⟨by decide +kernel, by decide +kernel⟩ dX12_init_336 ?_
  refine z_tT (X := TT460) rfl ?_
  refine z_aload_n dX12_init_339 rfl ?_
  refine z_iconst (r := 1) dX12_init_340 (by decide) ?_
  refine z_newA (at0 := .int) (ty := .int) (kd := 20) (N := 1) rfl zac_int (Or.inl ⟨rfl, rfl⟩) (by decide) (by decide) (by decide) (by decide +kernel) (by decide +kernel) (by decide +kernel) dX12_init_341 ?_
  refine z_tT (X := TT461) rfl ?_
  refine z_tS (X := SS236) rfl ?_
  refine z_tr (b := 229) (by decide +kernel) ?_
  refine z_putR zfX12_136 (Or.inr ⟨_, rfl⟩) (fun _ => rfl) ⟨by decide +kernel, by decide +kernel⟩ dX12_init_343 ?_
  refine z_tT (X := TT462) rfl ?_
  refine z_aload_n dX12_init_346 rfl ?_
  refine z_iconst (r := 0) dX12_init_347 (by decide) ?_
  refine z_callV (As := [.int 0]) zcX12 zkX12_139 ziX12_clears zqX12_clears ⟨by decide +kernel, by decide +kernel⟩ (tX12_clears TT462 187 0 SS236 fX12_at r hc) rfl rfl (Nat.le_of_ble_eq_true rfl) (by decide) ⟨Nat.le_refl _, Nat.le_refl _⟩ ⟨Nat.le_refl _, Nat.le_refl _⟩ dX12_init_348 ?_
  exact z_vret rfl dX12_init_351
theorem fe_6_0 : iX8 TT462 (zr TT462 (zr TT462 0 6) 0) := ⟨⟨by decide +kernel, by decide +kernel⟩, ⟨by decide +kernel, by decide +kernel, by decide +kernel⟩, ⟨by decide +kernel, by decide +kernel, by decide +kernel⟩, ⟨⟨by decide +kernel, by decide +kernel⟩, ⟨by decide +kernel, by decide +kernel, by decide +kernel⟩⟩⟩
theorem fe_6_1 : iX8 TT462 (zr TT462 (zr TT462 0 6) 1) := ⟨⟨by decide +kernel, by decide +kernel⟩, ⟨by decide +kernel, by decide +kernel, by decide +kernel⟩, ⟨by decide +kernel, by decide +kernel, by decide +kernel⟩, ⟨⟨by decide +kernel, by decide +kernel⟩, ⟨by decide +kernel, by decide +kernel, by decide +kernel⟩⟩⟩
theorem fe_6_2 : iX8 TT462 (zr TT462 (zr TT462 0 6) 2) := ⟨⟨by decide +kernel, by decide +kernel⟩, ⟨by decide +kernel, by decide +kernel, by decide +kernel⟩, ⟨by decide +kernel, by decide +kernel, by decide +kernel⟩, ⟨⟨by decide +kernel, by decide +kernel⟩, ⟨by decide +kernel, by decide +kernel, by decide +kernel⟩⟩⟩
theorem fe_6_3 : iX8 TT462 (zr TT462 (zr TT462 0 6) 3) := ⟨⟨by decide +kernel, by decide +kernel⟩, ⟨by decide +kernel, by decide +kernel, by decide +kernel⟩, ⟨by decide +kernel, by decide +kernel, by decide +kernel⟩, ⟨⟨by decide +kernel, by decide +kernel⟩, ⟨by decide +kernel, by decide +kernel, by decide +kernel⟩⟩⟩
theorem fe_6_4 : iX8 TT462 (zr TT462 (zr TT462 0 6) 4) := ⟨⟨by decide +kernel, by decide +kernel⟩, ⟨by decide +kernel, by decide +kernel, by decide +kernel⟩, ⟨by decide +kernel, by decide +kernel, by decide +kernel⟩, ⟨⟨by decide +kernel, by decide +kernel⟩, ⟨by decide +kernel, by decide +kernel, by decide +kernel⟩⟩⟩
theorem fe_6_5 : iX8 TT462 (zr TT462 (zr TT462 0 6) 5) := ⟨⟨by decide +kernel, by decide +kernel⟩, ⟨by decide +kernel, by decide +kernel, by decide +kernel⟩, ⟨by decide +kernel, by decide +kernel, by decide +kernel⟩, ⟨⟨by decide +kernel, by decide +kernel⟩, ⟨by decide +kernel, by decide +kernel, by decide +kernel⟩⟩⟩
theorem fe_8_0 : iX0 TT462 (zr TT462 (zr TT462 0 8) 0) := ⟨⟨by decide +kernel, by decide +kernel⟩, ⟨by decide +kernel, by decide +kernel, by decide +kernel⟩, ⟨by decide +kernel, by decide +kernel, by decide +kernel⟩, ⟨by decide +kernel, by decide +kernel, by decide +kernel⟩, ⟨by decide +kernel, by decide +kernel, by decide +kernel⟩, ⟨by decide +kernel, by decide +kernel, by decide +kernel⟩, ⟨by decide +kernel, by decide +kernel, by decide +kernel⟩, ⟨⟨by decide +kernel, by decide +kernel⟩, ⟨by decide +kernel, by decide +kernel, by decide +kernel⟩, ⟨by decide +kernel, by decide +kernel, by decide +kernel⟩, ⟨by decide +kernel, by decide +kernel, by decide +kernel⟩⟩, ⟨⟨by decide +kernel, by decide +kernel⟩, ⟨by decide +kernel, by decide +kernel, by decide +kernel⟩, ⟨by decide +kernel, by decide +kernel, by decide +kernel⟩, ⟨by decide +kernel, by decide +kernel, by decide +kernel⟩⟩, ⟨⟨by decide +kernel, by decide +kernel⟩, ⟨by decide +kernel, by decide +kernel, by decide +kernel⟩⟩⟩
theorem fe_8_1 : iX0 TT462 (zr TT462 (zr TT462 0 8) 1) := ⟨⟨by decide +kernel, by decide +kernel⟩, ⟨by decide +kernel, by decide +kernel, by decide +kernel⟩, ⟨by decide +kernel, by decide +kernel, by decide +kernel⟩, ⟨by decide +kernel, by decide +kernel, by decide +kernel⟩, ⟨by decide +kernel, by decide +kernel, by decide +kernel⟩, ⟨by decide +kernel, by decide +kernel, by decide +kernel⟩, ⟨by decide +kernel, by decide +kernel, by decide +kernel⟩, ⟨⟨by decide +kernel, by decide +kernel⟩, ⟨by decide +kernel, by decide +kernel, by decide +kernel⟩, ⟨by decide +kernel, by decide +kernel, by decide +kernel⟩, ⟨by decide +kernel, by decide +kernel, by decide +kernel⟩⟩, ⟨⟨by decide +kernel, by decide +kernel⟩, ⟨by decide +kernel, by decide +kernel, by decide +kernel⟩, ⟨by decide +kernel, by decide +kernel, by decide +kernel⟩, ⟨by decide +kernel, by decide +kernel, by decide +kernel⟩⟩, ⟨⟨by decide +kernel, by decide +kernel⟩, ⟨by decide +kernel, by decide +kernel, by decide +kernel⟩⟩⟩
theorem fe_8_2 : iX0 TT462 (zr TT462 (zr TT462 0 8) 2) := ⟨⟨by decide +kernel, by decide +kernel⟩, ⟨by decide +kernel, by decide +kernel, by decide +kernel⟩, ⟨by decide +kernel, by decide +kernel, by decide +kernel⟩, ⟨by decide +kernel, by decide +kernel, by decide +kernel⟩, ⟨by decide +kernel, by decide +kernel, by decide +kernel⟩, ⟨by decide +kernel, by decide +kernel, by decide +kernel⟩, ⟨by decide +kernel, by decide +kernel, by decide +kernel⟩, ⟨⟨by decide +kernel, by decide +kernel⟩, ⟨by decide +kernel, by decide +kernel, by decide +kernel⟩, ⟨by decide +kernel, by decide +kernel, by decide +kernel⟩, ⟨by decide +kernel, by decide +kernel, by decide +kernel⟩⟩, ⟨⟨by decide +kernel, by decide +kernel⟩, ⟨by decide +kernel, by decide +kernel, by decide +kernel⟩, ⟨by decide +kernel, by decide +kernel, by decide +kernel⟩, ⟨by decide +kernel, by decide +kernel, by decide +kernel⟩⟩, ⟨⟨by decide +kernel, by decide +kernel⟩, ⟨by decide +kernel, by decide +kernel, by decide +kernel⟩⟩⟩
theorem fe_8_3 : iX0 TT462 (zr TT462 (zr TT462 0 8) 3) := ⟨⟨by decide +kernel, by decide +kernel⟩, ⟨by decide +kernel, by decide +kernel, by decide +kernel⟩, ⟨by decide +kernel, by decide +kernel, by decide +kernel⟩, ⟨by decide +kernel, by decide +kernel, by decide +kernel⟩, ⟨by decide +kernel, by decide +kernel, by decide +kernel⟩, ⟨by decide +kernel, by decide +kernel, by decide +kernel⟩, ⟨by decide +kernel, by decide +kernel, by decide +kernel⟩, ⟨⟨by decide +kernel, by decide +kernel⟩, ⟨by decide +kernel, by decide +kernel, by decide +kernel⟩, ⟨by decide +kernel, by decide +kernel, by decide +kernel⟩, ⟨by decide +kernel, by decide +kernel, by decide +kernel⟩⟩, ⟨⟨by decide +kernel, by decide +kernel⟩, ⟨by decide +kernel, by decide +kernel, by decide +kernel⟩, ⟨by decide +kernel, by decide +kernel, by decide +kernel⟩, ⟨by decide +kernel, by decide +kernel, by decide +kernel⟩⟩, ⟨⟨by decide +kernel, by decide +kernel⟩, ⟨by decide +kernel, by decide +kernel, by decide +kernel⟩⟩⟩
theorem fe_9_0 : iX7 TT462 (zr TT462 (zr TT462 0 9) 0) := ⟨⟨by decide +kernel, by decide +kernel⟩, ⟨by decide +kernel, by decide +kernel, by decide +kernel⟩, ⟨by decide +kernel, by decide +kernel, by decide +kernel⟩, ⟨by decide +kernel, by decide +kernel, by decide +kernel⟩⟩
theorem fe_9_1 : iX7 TT462 (zr TT462 (zr TT462 0 9) 1) := ⟨⟨by decide +kernel, by decide +kernel⟩, ⟨by decide +kernel, by decide +kernel, by decide +kernel⟩, ⟨by decide +kernel, by decide +kernel, by decide +kernel⟩, ⟨by decide +kernel, by decide +kernel, by decide +kernel⟩⟩
theorem fe_9_2 : iX7 TT462 (zr TT462 (zr TT462 0 9) 2) := ⟨⟨by decide +kernel, by decide +kernel⟩, ⟨by decide +kernel, by decide +kernel, by decide +kernel⟩, ⟨by decide +kernel, by decide +kernel, by decide +kernel⟩, ⟨by decide +kernel, by decide +kernel, by decide +kernel⟩⟩
theorem fe_9_3 : iX7 TT462 (zr TT462 (zr TT462 0 9) 3) := ⟨⟨by decide +kernel, by decide +kernel⟩, ⟨by decide +kernel, by decide +kernel, by decide +kernel⟩, ⟨by decide +kernel, by decide +kernel, by decide +kernel⟩, ⟨by decide +kernel, by decide +kernel, by decide +kernel⟩⟩
theorem zHx : iX11 TT462 0 := ⟨⟨by decide +kernel, by decide +kernel⟩, ⟨by decide +kernel, by decide +kernel, by decide +kernel⟩, ⟨⟨by decide +kernel, by decide +kernel⟩, ⟨⟨by decide +kernel, by decide +kernel⟩, ⟨by decide +kernel, by decide +kernel, by decide +kernel⟩, ⟨by decide +kernel, by decide +kernel, by decide +kernel⟩, ⟨by decide +kernel, by decide +kernel, by decide +kernel⟩⟩⟩, ⟨⟨by decide +kernel, by decide +kernel⟩, ⟨by decide +kernel, by decide +kernel, by decide +kernel⟩, ⟨by decide +kernel, by decide +kernel, by decide +kernel⟩, ⟨by decide +kernel, by decide +kernel, by decide +kernel⟩, ⟨by decide +kernel, by decide +kernel, by decide +kernel⟩, ⟨by decide +kernel, by decide +kernel, by decide +kernel⟩, ⟨by decide +kernel, by decide +kernel, by decide +kernel⟩, ⟨⟨by decide +kernel, by decide +kernel⟩, ⟨by decide +kernel, by decide +kernel, by decide +kernel⟩, ⟨by decide +kernel, by decide +kernel, by decide +kernel⟩, ⟨by decide +kernel, by decide +kernel, by decide +kernel⟩⟩, ⟨⟨by decide +kernel, by decide +kernel⟩, ⟨by decide +kernel, by decide +kernel, by decide +kernel⟩, ⟨by decide +kernel, by decide +kernel, by decide +kernel⟩, ⟨by decide +kernel, by decide +kernel, by decide +kernel⟩⟩, ⟨⟨by decide +kernel, by decide +kernel⟩, ⟨by decide +kernel, by decide +kernel, by decide +kernel⟩⟩⟩, ⟨⟨by decide +kernel, by decide +kernel⟩, ⟨by decide +kernel, by decide +kernel, by decide +kernel⟩, ⟨by decide +kernel, by decide +kernel, by decide +kernel⟩, ⟨by decide +kernel, by decide +kernel, by decide +kernel⟩, ⟨by decide +kernel, by decide +kernel, by decide +kernel⟩, ⟨by decide +kernel, by decide +kernel, by decide +kernel⟩, ⟨by decide +kernel, by decide +kernel, by decide +kernel⟩, ⟨⟨by decide +kernel, by decide +kernel⟩, ⟨by decide +kernel, by decide +kernel, by decide +kernel⟩, ⟨by decide +kernel, by decide +kernel, by decide +kernel⟩, ⟨by decide +kernel, by decide +kernel, by decide +kernel⟩⟩, ⟨⟨by decide +kernel, by decide +kernel⟩, ⟨by decide +kernel, by decide +kernel, by decide +kernel⟩, ⟨by decide +kernel, by decide +kernel, by decide +kernel⟩, ⟨by decide +kernel, by decide +kernel, by decide +kernel⟩⟩, ⟨⟨by decide +kernel, by decide +kernel⟩, ⟨by decide +kernel, by decide +kernel, by decide +kernel⟩⟩⟩, ⟨⟨by decide +kernel, by decide +kernel⟩, ⟨by decide +kernel, by decide +kernel, by decide +kernel⟩, ⟨by decide +kernel, by decide +kernel, by decide +kernel⟩, ⟨by decide +kernel, by decide +kernel, by decide +kernel⟩⟩, ⟨⟨by decide +kernel, by decide +kernel, by decide +kernel⟩, by intro i hi; rcases (show i = 0 ∨ i = 1 ∨ i = 2 ∨ i = 3 ∨ i = 4 ∨ i = 5 by omega) with rfl | rfl | rfl | rfl | rfl | rfl; exact fe_6_0; exact fe_6_1; exact fe_6_2; exact fe_6_3; exact fe_6_4; exact fe_6_5⟩, ⟨⟨by decide +kernel, by decide +kernel, by decide +kernel⟩, by intro i hi; rcases (show i = 0 ∨ i = 1 ∨ i = 2 ∨ i = 3 by omega) with rfl | rfl | rfl | rfl; exact fe_8_0; exact fe_8_1; exact fe_8_2; exact fe_8_3⟩, ⟨⟨by decide +kernel, by decide +kernel, by decide +kernel⟩, by intro i hi; rcases (show i = 0 ∨ i = 1 ∨ i = 2 ∨ i = 3 by omega) with rfl | rfl | rfl | rfl; exact fe_9_0; exact fe_9_1; exact fe_9_2; exact fe_9_3⟩, ⟨by decide +kernel, by decide +kernel, by decide +kernel⟩, ⟨⟨by decide +kernel, by decide +kernel⟩, ⟨by decide +kernel, by decide +kernel, by decide +kernel⟩, ⟨by decide +kernel, by decide +kernel, by decide +kernel⟩⟩, ⟨⟨by decide +kernel, by decide +kernel⟩, ⟨⟨by decide +kernel, by decide +kernel⟩, ⟨by decide +kernel, by decide +kernel, by decide +kernel⟩, ⟨by decide +kernel, by decide +kernel, by decide +kernel⟩, ⟨by decide +kernel, by decide +kernel, by decide +kernel⟩, ⟨by decide +kernel, by decide +kernel, by decide +kernel⟩, ⟨by decide +kernel, by decide +kernel, by decide +kernel⟩, ⟨by decide +kernel, by decide +kernel, by decide +kernel⟩, ⟨⟨by decide +kernel, by decide +kernel⟩, ⟨by decide +kernel, by decide +kernel, by decide +kernel⟩, ⟨by decide +kernel, by decide +kernel, by decide +kernel⟩, ⟨by decide +kernel, by decide +kernel, by decide +kernel⟩⟩, ⟨⟨by decide +kernel, by decide +kernel⟩, ⟨by decide +kernel, by decide +kernel, by decide +kernel⟩, ⟨by decide +kernel, by decide +kernel, by decide +kernel⟩, ⟨by decide +kernel, by decide +kernel, by decide +kernel⟩⟩, ⟨⟨by decide +kernel, by decide +kernel⟩, ⟨by decide +kernel, by decide +kernel, by decide +kernel⟩⟩⟩, ⟨⟨by decide +kernel, by decide +kernel⟩, ⟨by decide +kernel, by decide +kernel, by decide +kernel⟩, ⟨by decide +kernel, by decide +kernel, by decide +kernel⟩⟩, ⟨⟨by decide +kernel, by decide +kernel⟩, ⟨by decide +kernel, by decide +kernel, by decide +kernel⟩, ⟨by decide +kernel, by decide +kernel, by decide +kernel⟩⟩, ⟨by decide +kernel, by decide +kernel, by decide +kernel⟩, ⟨by decide +kernel, by decide +kernel, by decide +kernel⟩, ⟨by decide +kernel, by decide +kernel, by decide +kernel⟩, ⟨by decide +kernel, by decide +kernel, by decide +kernel⟩, ⟨by decide +kernel, by decide +kernel, by decide +kernel⟩, ⟨by decide +kernel, by decide +kernel, by decide +kernel⟩⟩, ⟨⟨by decide +kernel, by decide +kernel⟩, ⟨⟨by decide +kernel, by decide +kernel⟩, ⟨by decide +kernel, by decide +kernel, by decide +kernel⟩, ⟨by decide +kernel, by decide +kernel, by decide +kernel⟩, ⟨by decide +kernel, by decide +kernel, by decide +kernel⟩, ⟨by decide +kernel, by decide +kernel, by decide +kernel⟩, ⟨by decide +kernel, by decide +kernel, by decide +kernel⟩, ⟨by decide +kernel, by decide +kernel, by decide +kernel⟩, ⟨⟨by decide +kernel, by decide +kernel⟩, ⟨by decide +kernel, by decide +kernel, by decide +kernel⟩, ⟨by decide +kernel, by decide +kernel, by decide +kernel⟩, ⟨by decide +kernel, by decide +kernel, by decide +kernel⟩⟩, ⟨⟨by decide +kernel, by decide +kernel⟩, ⟨by decide +kernel, by decide +kernel, by decide +kernel⟩, ⟨by decide +kernel, by decide +kernel, by decide +kernel⟩, ⟨by decide +kernel, by decide +kernel, by decide +kernel⟩⟩, ⟨⟨by decide +kernel, by decide +kernel⟩, ⟨by decide +kernel, by decide +kernel, by decide +kernel⟩⟩⟩, ⟨⟨by decide +kernel, by decide +kernel⟩, ⟨by decide +kernel, by decide +kernel, by decide +kernel⟩, ⟨by decide +kernel, by decide +kernel, by decide +kernel⟩⟩, ⟨by decide +kernel, by decide +kernel, by decide +kernel⟩, ⟨by decide +kernel, by decide +kernel, by decide +kernel⟩, ⟨by decide +kernel, by decide +kernel, by decide +kernel⟩, ⟨by decide +kernel, by decide +kernel, by decide +kernel⟩, ⟨by decide +kernel, by decide +kernel, by decide +kernel⟩, ⟨by decide +kernel, by decide +kernel, by decide +kernel⟩, ⟨by decide +kernel, by decide +kernel, by decide +kernel⟩, ⟨by decide +kernel, by decide +kernel, by decide +kernel⟩⟩, ⟨⟨by decide +kernel, by decide +kernel⟩, trivial⟩, ⟨by decide +kernel, by decide +kernel, by decide +kernel⟩⟩
theorem zHm : iX12 TT462 187 := ⟨⟨by decide +kernel, by decide +kernel⟩, ⟨by decide +kernel, by decide +kernel, by decide +kernel⟩, ⟨by decide +kernel, by decide +kernel, by decide +kernel⟩, ⟨by decide +kernel, by decide +kernel, by decide +kernel⟩, ⟨by decide +kernel, by decide +kernel, by decide +kernel⟩, ⟨by decide +kernel, by decide +kernel, by decide +kernel⟩, ⟨by decide +kernel, by decide +kernel, by decide +kernel⟩, ⟨by decide +kernel, by decide +kernel, by decide +kernel⟩, ⟨by decide +kernel, by decide +kernel, by decide +kernel⟩, ⟨by decide +kernel, by decide +kernel, by decide +kernel⟩, ⟨by decide +kernel, by decide +kernel, by decide +kernel⟩, ⟨by decide +kernel, by decide +kernel, by decide +kernel⟩, ⟨by decide +kernel, by decide +kernel, by decide +kernel⟩, ⟨by decide +kernel, by decide +kernel, by decide +kernel⟩, ⟨by decide +kernel, by decide +kernel, by decide +kernel⟩, ⟨by decide +kernel, by decide +kernel, by decide +kernel⟩, ⟨by decide +kernel, by decide +kernel, by decide +kernel⟩, ⟨by decide +kernel, by decide +kernel, by decide +kernel⟩, ⟨by decide +kernel, by decide +kernel, by decide +kernel⟩, ⟨by decide +kernel, by decide +kernel, by decide +kernel⟩, ⟨by decide +kernel, by decide +kernel, by decide +kernel⟩, ⟨by decide +kernel, by decide +kernel, by decide +kernel⟩, ⟨by decide +kernel, by decide +kernel, by decide +kernel⟩, ⟨by decide +kernel, by decide +kernel, by decide +kernel⟩, ⟨by decide +kernel, by decide +kernel, by decide +kernel⟩, ⟨by decide +kernel, by decide +kernel, by decide +kernel⟩, ⟨by decide +kernel, by decide +kernel, by decide +kernel⟩, ⟨by decide +kernel, by decide +kernel, by decide +kernel⟩, ⟨by decide +kernel, by decide +kernel, by decide +kernel⟩, ⟨by decide +kernel, by decide +kernel, by decide +kernel⟩, ⟨by decide +kernel, by decide +kernel, by decide +kernel⟩, ⟨by decide +kernel, by decide +kernel, by decide +kernel⟩, ⟨by decide +kernel, by decide +kernel, by decide +kernel⟩, ⟨by decide +kernel, by decide +kernel, by decide +kernel⟩, ⟨by decide +kernel, by decide +kernel, by decide +kernel⟩, ⟨by decide +kernel, by decide +kernel, by decide +kernel⟩, ⟨by decide +kernel, by decide +kernel, by decide +kernel⟩, ⟨by decide +kernel, by decide +kernel, by decide +kernel⟩, ⟨by decide +kernel, by decide +kernel, by decide +kernel⟩, ⟨by decide +kernel, by decide +kernel, by decide +kernel⟩, ⟨by decide +kernel, by decide +kernel, by decide +kernel⟩, ⟨by decide +kernel, by decide +kernel, by decide +kernel⟩, ⟨by decide +kernel, by decide +kernel, by decide +kernel⟩⟩
