theorem dJ0_length_8abf5_0 : decode cJ0_length_8abf5 0 = .ok (.aload_n 0, 1) := by decide +kernel
theorem dJ0_length_8abf5_1 : decode cJ0_length_8abf5 1 = .ok (.getfield 9, 3) := by decide +kernel
theorem dJ0_length_8abf5_4 : decode cJ0_length_8abf5 4 = .ok (.arraylength, 1) := by decide +kernel
theorem dJ0_length_8abf5_5 : decode cJ0_length_8abf5 5 = .ok (.aload_n 0, 1) := by decide +kernel
theorem dJ0_length_8abf5_6 : decode cJ0_length_8abf5 6 = .ok (.invokevirtual 335, 3) := by decide +kernel
theorem dJ0_length_8abf5_9 : decode cJ0_length_8abf5 9 = .ok (.ishr, 1) := by decide +kernel
theorem dJ0_length_8abf5_10 : decode cJ0_length_8abf5 10 = .ok (.ireturn, 1) := by decide +kernel
theorem dJ0_charAt_5068e_0 : decode cJ0_charAt_5068e 0 = .ok (.aload_n 0, 1) := by decide +kernel
theorem dJ0_charAt_5068e_1 : decode cJ0_charAt_5068e 1 = .ok (.invokevirtual 492, 3) := by decide +kernel
theorem dJ0_charAt_5068e_4 : decode cJ0_charAt_5068e 4 = .ok (.ifCond .eq 12, 3) := by decide +kernel
theorem dJ0_charAt_5068e_7 : decode cJ0_charAt_5068e 7 = .ok (.aload_n 0, 1) := by decide +kernel
theorem dJ0_charAt_5068e_8 : decode cJ0_charAt_5068e 8 = .ok (.getfield 9, 3) := by decide +kernel
theorem dJ0_charAt_5068e_11 : decode cJ0_charAt_5068e 11 = .ok (.iload_n 1, 1) := by decide +kernel
theorem dJ0_charAt_5068e_12 : decode cJ0_charAt_5068e 12 = .ok (.invokestatic 495, 3) := by decide +kernel
theorem dJ0_charAt_5068e_15 : decode cJ0_charAt_5068e 15 = .ok (.ireturn, 1) := by decide +kernel
theorem dJ0_charAt_5068e_16 : decode cJ0_charAt_5068e 16 = .ok (.aload_n 0, 1) := by decide +kernel
theorem dJ0_charAt_5068e_17 : decode cJ0_charAt_5068e 17 = .ok (.getfield 9, 3) := by decide +kernel
theorem dJ0_charAt_5068e_20 : decode cJ0_charAt_5068e 20 = .ok (.iload_n 1, 1) := by decide +kernel
theorem dJ0_charAt_5068e_21 : decode cJ0_charAt_5068e 21 = .ok (.invokestatic 498, 3) := by decide +kernel
theorem dJ0_charAt_5068e_24 : decode cJ0_charAt_5068e 24 = .ok (.ireturn, 1) := by decide +kernel
theorem dJ0_coder_7d493_0 : decode cJ0_coder_7d493 0 = .ok (.getstatic 38, 3) := by decide +kernel
theorem dJ0_coder_7d493_3 : decode cJ0_coder_7d493 3 = .ok (.ifCond .eq 10, 3) := by decide +kernel
theorem dJ0_coder_7d493_6 : decode cJ0_coder_7d493 6 = .ok (.aload_n 0, 1) := by decide +kernel
theorem dJ0_coder_7d493_7 : decode cJ0_coder_7d493 7 = .ok (.getfield 15, 3) := by decide +kernel
theorem dJ0_coder_7d493_10 : decode cJ0_coder_7d493 10 = .ok (.goto 4, 3) := by decide +kernel
theorem dJ0_coder_7d493_13 : decode cJ0_coder_7d493 13 = .ok (.iconst 1, 1) := by decide +kernel
theorem dJ0_coder_7d493_14 : decode cJ0_coder_7d493 14 = .ok (.ireturn, 1) := by decide +kernel
theorem dJ0_isLatin1_aae02_0 : decode cJ0_isLatin1_aae02 0 = .ok (.getstatic 38, 3) := by decide +kernel
theorem dJ0_isLatin1_aae02_3 : decode cJ0_isLatin1_aae02 3 = .ok (.ifCond .eq 14, 3) := by decide +kernel
theorem dJ0_isLatin1_aae02_6 : decode cJ0_isLatin1_aae02 6 = .ok (.aload_n 0, 1) := by decide +kernel
theorem dJ0_isLatin1_aae02_7 : decode cJ0_isLatin1_aae02 7 = .ok (.getfield 15, 3) := by decide +kernel
theorem dJ0_isLatin1_aae02_10 : decode cJ0_isLatin1_aae02 10 = .ok (.ifCond .ne 7, 3) := by decide +kernel
theorem dJ0_isLatin1_aae02_13 : decode cJ0_isLatin1_aae02 13 = .ok (.iconst 1, 1) := by decide +kernel
theorem dJ0_isLatin1_aae02_14 : decode cJ0_isLatin1_aae02 14 = .ok (.goto 4, 3) := by decide +kernel
theorem dJ0_isLatin1_aae02_17 : decode cJ0_isLatin1_aae02 17 = .ok (.iconst 0, 1) := by decide +kernel
theorem dJ0_isLatin1_aae02_18 : decode cJ0_isLatin1_aae02 18 = .ok (.ireturn, 1) := by decide +kernel
theorem dJ0_checkIndex_df160_0 : decode cJ0_checkIndex_df160 0 = .ok (.iload_n 0, 1) := by decide +kernel
theorem dJ0_checkIndex_df160_1 : decode cJ0_checkIndex_df160 1 = .ok (.iload_n 1, 1) := by decide +kernel
theorem dJ0_checkIndex_df160_2 : decode cJ0_checkIndex_df160 2 = .ok (.getstatic 1053, 3) := by decide +kernel
theorem dJ0_checkIndex_df160_5 : decode cJ0_checkIndex_df160 5 = .ok (.invokestatic 1059, 3) := by decide +kernel
theorem dJ0_checkIndex_df160_8 : decode cJ0_checkIndex_df160 8 = .ok (.pop, 1) := by decide +kernel
theorem dJ0_checkIndex_df160_9 : decode cJ0_checkIndex_df160 9 = .ok (.return_, 1) := by decide +kernel
theorem dJ1_charAt_3b067_0 : decode cJ1_charAt_3b067 0 = .ok (.iload_n 1, 1) := by decide +kernel
theorem dJ1_charAt_3b067_1 : decode cJ1_charAt_3b067 1 = .ok (.aload_n 0, 1) := by decide +kernel
theorem dJ1_charAt_3b067_2 : decode cJ1_charAt_3b067 2 = .ok (.arraylength, 1) := by decide +kernel
theorem dJ1_charAt_3b067_3 : decode cJ1_charAt_3b067 3 = .ok (.invokestatic 9, 3) := by decide +kernel
theorem dJ1_charAt_3b067_6 : decode cJ1_charAt_3b067 6 = .ok (.aload_n 0, 1) := by decide +kernel
theorem dJ1_charAt_3b067_7 : decode cJ1_charAt_3b067 7 = .ok (.iload_n 1, 1) := by decide +kernel
theorem dJ1_charAt_3b067_8 : decode cJ1_charAt_3b067 8 = .ok (.baload, 1) := by decide +kernel
theorem dJ1_charAt_3b067_9 : decode cJ1_charAt_3b067 9 = .ok (.sipush 255, 3) := by decide +kernel
theorem dJ1_charAt_3b067_12 : decode cJ1_charAt_3b067 12 = .ok (.iand, 1) := by decide +kernel
theorem dJ1_charAt_3b067_13 : decode cJ1_charAt_3b067 13 = .ok (.i2c, 1) := by decide +kernel
theorem dJ1_charAt_3b067_14 : decode cJ1_charAt_3b067 14 = .ok (.ireturn, 1) := by decide +kernel
theorem dJ3_checkIndex_8e157_0 : decode cJ3_checkIndex_8e157 0 = .ok (.iload_n 0, 1) := by decide +kernel
theorem dJ3_checkIndex_8e157_1 : decode cJ3_checkIndex_8e157 1 = .ok (.ifCond .lt 8, 3) := by decide +kernel
theorem dJ3_checkIndex_8e157_4 : decode cJ3_checkIndex_8e157 4 = .ok (.iload_n 0, 1) := by decide +kernel
theorem dJ3_checkIndex_8e157_5 : decode cJ3_checkIndex_8e157 5 = .ok (.iload_n 1, 1) := by decide +kernel
theorem dJ3_checkIndex_8e157_6 : decode cJ3_checkIndex_8e157 6 = .ok (.if_icmp .lt 10, 3) := by decide +kernel
theorem dJ3_checkIndex_8e157_9 : decode cJ3_checkIndex_8e157 9 = .ok (.aload_n 2, 1) := by decide +kernel
theorem dJ3_checkIndex_8e157_10 : decode cJ3_checkIndex_8e157 10 = .ok (.iload_n 0, 1) := by decide +kernel
theorem dJ3_checkIndex_8e157_11 : decode cJ3_checkIndex_8e157 11 = .ok (.iload_n 1, 1) := by decide +kernel
theorem dJ3_checkIndex_8e157_12 : decode cJ3_checkIndex_8e157 12 = .ok (.invokestatic 95, 3) := by decide +kernel
theorem dJ3_checkIndex_8e157_15 : decode cJ3_checkIndex_8e157 15 = .ok (.athrow, 1) := by decide +kernel
theorem dJ3_checkIndex_8e157_16 : decode cJ3_checkIndex_8e157 16 = .ok (.iload_n 0, 1) := by decide +kernel
theorem dJ3_checkIndex_8e157_17 : decode cJ3_checkIndex_8e157 17 = .ok (.ireturn, 1) := by decide +kernel
theorem tJ0_coder (T : zT) (i : Nat) (S : zS) (h : i < 27) : zGM 0 mJ0_coder_7d493 [.ref (10002 + i)] T S (some (.int 0)) T S := by
  refine zGM_of zpnJ0 rfl (Nat.le_of_ble_eq_true rfl) (fun g => ?_)
  show zg g 0 mJ0_coder_7d493 T 0 [some (.ref (10002 + i))] [] T S (some (.int 0)) T S
  refine z_compact zyJ0_38 dJ0_coder_7d493_0 ?_
  refine z_if_eq (tgt := 13) dJ0_coder_7d493_3 (by decide) (fun q => absurd q (by decide)) (fun q => ?_)
  refine z_aload_n dJ0_coder_7d493_6 rfl ?_
  refine z_strc h zyJ0_15 dJ0_coder_7d493_7 ?_
  refine z_goto (tgt := 14) dJ0_coder_7d493_10 (by decide) ?_
  exact z_nret rfl rfl dJ0_coder_7d493_14
theorem tJ0_length (T : zT) (i : Nat) (S : zS) (h : i < 27) : zGM 1 mJ0_length_8abf5 [.ref (10002 + i)] T S (some (.int (zsL i))) T S := by
  refine zGM_of zpnJ0 rfl (Nat.le_of_ble_eq_true rfl) (fun g => ?_)
  show zg g 1 mJ0_length_8abf5 T 0 [some (.ref (10002 + i))] [] T S (some (.int (zsL i))) T S
  refine z_aload_n dJ0_length_8abf5_0 rfl ?_
  refine z_strv h zyJ0_9 dJ0_length_8abf5_1 ?_
  refine z_stra h dJ0_length_8abf5_4 ?_
  refine z_aload_n dJ0_length_8abf5_5 rfl ?_
  refine z_callW (As := []) rfl zkJ0_335 ziJ0_coder_7d493 zqJ0_coder_7d493 h (tJ0_coder T i S h) rfl rfl (Nat.le_of_ble_eq_true rfl) (by decide) ⟨Nat.le_refl _, Nat.le_refl _⟩ dJ0_length_8abf5_6 ?_
  refine z_ishr (r := zsL i) dJ0_length_8abf5_9 (sc_shr0 (n := zsN i) (by have := zsN_lt i h; omega)) ?_
  exact z_iret rfl dJ0_length_8abf5_10
theorem tJ0_isLatin1 (T : zT) (i : Nat) (S : zS) (h : i < 27) : zGM 0 mJ0_isLatin1_aae02 [.ref (10002 + i)] T S (some (.int 1)) T S := by
  refine zGM_of zpnJ0 rfl (Nat.le_of_ble_eq_true rfl) (fun g => ?_)
  show zg g 0 mJ0_isLatin1_aae02 T 0 [some (.ref (10002 + i))] [] T S (some (.int 1)) T S
  refine z_compact zyJ0_38 dJ0_isLatin1_aae02_0 ?_
  refine z_if_eq (tgt := 17) dJ0_isLatin1_aae02_3 (by decide) (fun q => absurd q (by decide)) (fun q => ?_)
  refine z_aload_n dJ0_isLatin1_aae02_6 rfl ?_
  refine z_strc h zyJ0_15 dJ0_isLatin1_aae02_7 ?_
  refine z_if_ne (tgt := 17) dJ0_isLatin1_aae02_10 (by decide) (fun q => absurd rfl q) (fun q => ?_)
  refine z_iconst (r := 1) dJ0_isLatin1_aae02_13 (by decide) ?_
  refine z_goto (tgt := 18) dJ0_isLatin1_aae02_14 (by decide) ?_
  exact z_zret rfl (Or.inr rfl) dJ0_isLatin1_aae02_18
theorem tJ3_checkIndex (T : zT) (x n : Int32) (k : Nat) (S : zS) (hx : ¬ x < 0) (hn : x < n) : zGM 0 mJ3_checkIndex_8e157 [.int x, .int n, .ref k] T S (some (.int x)) T S := by
  refine zGM_of zpnJ3 rfl (Nat.le_of_ble_eq_true rfl) (fun g => ?_)
  show zg g 0 mJ3_checkIndex_8e157 T 0 [some (.int x), some (.int n), some (.ref k)] [] T S (some (.int x)) T S
  refine z_iload_n dJ3_checkIndex_8e157_0 rfl ?_
  refine z_if_lt (tgt := 9) dJ3_checkIndex_8e157_1 (by decide) (fun q => absurd q hx) (fun q => ?_)
  refine z_iload_n dJ3_checkIndex_8e157_4 rfl ?_
  refine z_iload_n dJ3_checkIndex_8e157_5 rfl ?_
  refine z_icmp_lt (tgt := 16) dJ3_checkIndex_8e157_6 (by decide) (fun q => ?_) (fun q => absurd hn q)
  refine z_iload_n dJ3_checkIndex_8e157_16 rfl ?_
  exact z_iret rfl dJ3_checkIndex_8e157_17
theorem tJ0_checkIndex (T : zT) (x n : Int32) (S : zS) (hx : ¬ x < 0) (hn : x < n) : zGM 1 mJ0_checkIndex_df160 [.int x, .int n] T S none T S := by
  refine zGM_of zpnJ0 rfl (Nat.le_of_ble_eq_true rfl) (fun g => ?_)
  show zg g 1 mJ0_checkIndex_df160 T 0 [some (.int x), some (.int n)] [] T S none T S
  refine z_iload_n dJ0_checkIndex_df160_0 rfl ?_
  refine z_iload_n dJ0_checkIndex_df160_1 rfl ?_
  refine z_format zyJ0_1053 dJ0_checkIndex_df160_2 (fun k => ?_)
  refine z_callS (As := [.int x, .int n, .ref k]) zkJ0_1059 zsJ3_checkIndex_8e157 (tJ3_checkIndex T x n k S hx hn) rfl rfl (Nat.le_of_ble_eq_true rfl) (by decide) ⟨Nat.le_refl _, Nat.le_refl _⟩ ⟨Nat.le_refl _, Nat.le_refl _⟩ dJ0_checkIndex_df160_5 ?_
  refine z_pop dJ0_checkIndex_df160_8 rfl ?_
  exact z_vret rfl dJ0_checkIndex_df160_9
theorem zin_cmp {j : Int32} {i : Nat} (h : i < 27) (hj : vp_in j (zsN i)) : ¬ j < 0 ∧ j < zsL i := by
  have h1 := vp_in_iff.mp hj
  have h2 := zsN_lt i h
  refine ⟨fun q => hj (Or.inl q), ?_⟩
  rw [Int32.lt_iff_toInt_lt]
  have e : (zsL i).toInt = (zsN i : Int) := nI_toInt (by omega)
  rw [e]
  exact h1.2
theorem tJ1_charAt (T : zT) (i : Nat) (j : Int32) (S : zS) (h : i < 27) (hj : vp_in j (zsN i)) : zGM 2 mJ1_charAt_3b067 [.ref (20001 + i), .int j] T S (some (.int (zsC i j.toNatClampNeg))) T S := by
  refine zGM_of zpnJ1 rfl (Nat.le_of_ble_eq_true rfl) (fun g => ?_)
  show zg g 2 mJ1_charAt_3b067 T 0 [some (.ref (20001 + i)), some (.int j)] [] T S (some (.int (zsC i j.toNatClampNeg))) T S
  refine z_iload_n dJ1_charAt_3b067_0 rfl ?_
  refine z_aload_n dJ1_charAt_3b067_1 rfl ?_
  refine z_stra h dJ1_charAt_3b067_2 ?_
  refine z_callS (As := [.int j, .int (zsL i)]) zkJ1_9 zsJ0_checkIndex_df160 (tJ0_checkIndex T j (zsL i) S (zin_cmp h hj).1 (zin_cmp h hj).2) rfl rfl (Nat.le_of_ble_eq_true rfl) (by decide) ⟨Nat.le_refl _, Nat.le_refl _⟩ ⟨Nat.le_refl _, Nat.le_refl _⟩ dJ1_charAt_3b067_3 ?_
  refine z_aload_n dJ1_charAt_3b067_6 rfl ?_
  refine z_iload_n dJ1_charAt_3b067_7 rfl ?_
  refine z_strb h hj dJ1_charAt_3b067_8 ?_
  refine z_sipush (r := 255) dJ1_charAt_3b067_9 (by decide) ?_
  refine z_iand dJ1_charAt_3b067_12 rfl ?_
  refine z_i2c (r := zsC i j.toNatClampNeg) dJ1_charAt_3b067_13 (sc_c2 _) ?_
  exact z_nret rfl (sc_nar _) dJ1_charAt_3b067_14
theorem tJ0_charAt (T : zT) (i : Nat) (j : Int32) (S : zS) (h : i < 27) (hj : vp_in j (zsN i)) : zGM 3 mJ0_charAt_5068e [.ref (10002 + i), .int j] T S (some (.int (zsC i j.toNatClampNeg))) T S := by
  refine zGM_of zpnJ0 rfl (Nat.le_of_ble_eq_true rfl) (fun g => ?_)
  show zg g 3 mJ0_charAt_5068e T 0 [some (.ref (10002 + i)), some (.int j)] [] T S (some (.int (zsC i j.toNatClampNeg))) T S
  refine z_aload_n dJ0_charAt_5068e_0 rfl ?_
  refine z_callW (As := []) rfl zkJ0_492 ziJ0_isLatin1_aae02 zqJ0_isLatin1_aae02 h (tJ0_isLatin1 T i S h) rfl rfl (Nat.le_of_ble_eq_true rfl) (by decide) ⟨Nat.le_refl _, Nat.le_refl _⟩ dJ0_charAt_5068e_1 ?_
  refine z_if_eq (tgt := 16) dJ0_charAt_5068e_4 (by decide) (fun q => absurd q (by decide)) (fun q => ?_)
  refine z_aload_n dJ0_charAt_5068e_7 rfl ?_
  refine z_strv h zyJ0_9 dJ0_charAt_5068e_8 ?_
  refine z_iload_n dJ0_charAt_5068e_11 rfl ?_
  refine z_callS (As := [.ref (20001 + i), .int j]) zkJ0_495 zsJ1_charAt_3b067 (tJ1_charAt T i j S h hj) rfl rfl (Nat.le_of_ble_eq_true rfl) (by decide) ⟨Nat.le_refl _, Nat.le_refl _⟩ ⟨Nat.le_refl _, Nat.le_refl _⟩ dJ0_charAt_5068e_12 ?_
  exact z_nret rfl (sc_nar _) dJ0_charAt_5068e_15
