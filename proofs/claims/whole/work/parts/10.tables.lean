/-! the tables, by number: classes, methods, what pool entries link to -/
theorem zTb_k {ws : List Cond} (h : ∀ w ∈ ws, w ∈ lw_tbl) {w : Cond} (hw : w ∈ ws) (hg : goodWord w = true) : w ∈ zTb := zTb_of (h w hw) hg
theorem zTc1 : ∀ w ∈ tables_1_1, w ∈ lw_tbl := fun w hw => List.mem_append_right (k2_sels lw_privs) (show w ∈ tables_1 from List.mem_append_left _ hw)
theorem zTc2 : ∀ w ∈ tables_1_2, w ∈ lw_tbl := fun w hw => List.mem_append_right (k2_sels lw_privs) (show w ∈ tables_1 from List.mem_append_right _ (List.mem_append_left _ hw))
theorem zTc3 : ∀ w ∈ tables_1_3, w ∈ lw_tbl := fun w hw => List.mem_append_right (k2_sels lw_privs) (show w ∈ tables_1 from List.mem_append_right _ (List.mem_append_right _ (List.mem_append_left _ hw)))
theorem zTc4 : ∀ w ∈ tables_1_4, w ∈ lw_tbl := fun w hw => List.mem_append_right (k2_sels lw_privs) (show w ∈ tables_1 from List.mem_append_right _ (List.mem_append_right _ (List.mem_append_right _ (List.mem_append_left _ hw))))
theorem zTc5 : ∀ w ∈ tables_1_5, w ∈ lw_tbl := fun w hw => List.mem_append_right (k2_sels lw_privs) (show w ∈ tables_1 from List.mem_append_right _ (List.mem_append_right _ (List.mem_append_right _ (List.mem_append_right _ (List.mem_append_left _ hw)))))
theorem zTc6 : ∀ w ∈ tables_1_6, w ∈ lw_tbl := fun w hw => List.mem_append_right (k2_sels lw_privs) (show w ∈ tables_1 from List.mem_append_right _ (List.mem_append_right _ (List.mem_append_right _ (List.mem_append_right _ (List.mem_append_right _ (List.mem_append_left _ hw))))))
theorem zTc7 : ∀ w ∈ tables_1_7, w ∈ lw_tbl := fun w hw => List.mem_append_right (k2_sels lw_privs) (show w ∈ tables_1 from List.mem_append_right _ (List.mem_append_right _ (List.mem_append_right _ (List.mem_append_right _ (List.mem_append_right _ (List.mem_append_right _ (List.mem_append_left _ hw)))))))
theorem zTc8 : ∀ w ∈ tables_1_8, w ∈ lw_tbl := fun w hw => List.mem_append_right (k2_sels lw_privs) (show w ∈ tables_1 from List.mem_append_right _ (List.mem_append_right _ (List.mem_append_right _ (List.mem_append_right _ (List.mem_append_right _ (List.mem_append_right _ (List.mem_append_right _ (hw))))))))
theorem zTc0 : ∀ w ∈ k2_sels lw_privs, w ∈ lw_tbl := fun w hw => List.mem_append_left _ hw
theorem zcX0 : zC 0 RX0 TX0 15 tyX0 := ⟨rfl, (show ∀ w ∈ u_ws RX0 TX0 15, w ∈ zTb from List.forall_mem_cons.mpr ⟨zTb_k zTc1 (List.mem_of_getElem? (i := 205) rfl) rfl, List.forall_mem_cons.mpr ⟨zTb_k zTc1 (List.mem_of_getElem? (i := 207) rfl) rfl, List.forall_mem_cons.mpr ⟨zTb_k zTc1 (List.mem_of_getElem? (i := 209) rfl) rfl, List.forall_mem_cons.mpr ⟨zTb_k zTc1 (List.mem_of_getElem? (i := 211) rfl) rfl, List.forall_mem_cons.mpr ⟨zTb_k zTc1 (List.mem_of_getElem? (i := 213) rfl) rfl, List.forall_mem_cons.mpr ⟨zTb_k zTc1 (List.mem_of_getElem? (i := 215) rfl) rfl, List.forall_mem_cons.mpr ⟨zTb_k zTc1 (List.mem_of_getElem? (i := 217) rfl) rfl, List.forall_mem_cons.mpr ⟨zTb_k zTc1 (List.mem_of_getElem? (i := 219) rfl) rfl, List.forall_mem_cons.mpr ⟨zTb_k zTc1 (List.mem_of_getElem? (i := 221) rfl) rfl, List.forall_mem_cons.mpr ⟨zTb_k zTc1 (List.mem_of_getElem? (i := 223) rfl) rfl, List.forall_mem_cons.mpr ⟨zTb_k zTc1 (List.mem_of_getElem? (i := 225) rfl) rfl, List.forall_mem_cons.mpr ⟨zTb_k zTc1 (List.mem_of_getElem? (i := 227) rfl) rfl, List.forall_mem_cons.mpr ⟨zTb_k zTc1 (List.mem_of_getElem? (i := 229) rfl) rfl, List.forall_mem_cons.mpr ⟨zTb_k zTc1 (List.mem_of_getElem? (i := 231) rfl) rfl, List.forall_mem_cons.mpr ⟨zTb_k zTc1 (List.mem_of_getElem? (i := 233) rfl) rfl, fun _ h => absurd h List.not_mem_nil⟩⟩⟩⟩⟩⟩⟩⟩⟩⟩⟩⟩⟩⟩⟩), tyX0_ok, nmX0, rfl, by decide, by decide +kernel⟩
theorem zdfX0 : ∀ j, j < 15 → defaultValue (tyX0 j) = zdv (zkd (tyX0 j)) := by decide +kernel
theorem zpnX0 : plainName RX0 = true := by decide +kernel
theorem zcX1 : zC 1 RX1 TX1 4 tyX1 := ⟨rfl, (show ∀ w ∈ u_ws RX1 TX1 4, w ∈ zTb from List.forall_mem_cons.mpr ⟨zTb_k zTc1 (List.mem_of_getElem? (i := 107) rfl) rfl, List.forall_mem_cons.mpr ⟨zTb_k zTc1 (List.mem_of_getElem? (i := 109) rfl) rfl, List.forall_mem_cons.mpr ⟨zTb_k zTc1 (List.mem_of_getElem? (i := 111) rfl) rfl, List.forall_mem_cons.mpr ⟨zTb_k zTc1 (List.mem_of_getElem? (i := 113) rfl) rfl, fun _ h => absurd h List.not_mem_nil⟩⟩⟩⟩), tyX1_ok, nmX1, rfl, by decide, by decide +kernel⟩
theorem zdfX1 : ∀ j, j < 4 → defaultValue (tyX1 j) = zdv (zkd (tyX1 j)) := by decide +kernel
theorem zpnX1 : plainName RX1 = true := by decide +kernel
theorem zcX2 : zC 2 RX2 TX2 3 tyX2 := ⟨rfl, (show ∀ w ∈ u_ws RX2 TX2 3, w ∈ zTb from List.forall_mem_cons.mpr ⟨zTb_k zTc1 (List.mem_of_getElem? (i := 126) rfl) rfl, List.forall_mem_cons.mpr ⟨zTb_k zTc1 (List.mem_of_getElem? (i := 128) rfl) rfl, List.forall_mem_cons.mpr ⟨zTb_k zTc1 (List.mem_of_getElem? (i := 130) rfl) rfl, fun _ h => absurd h List.not_mem_nil⟩⟩⟩), tyX2_ok, nmX2, rfl, by decide, by decide +kernel⟩
theorem zdfX2 : ∀ j, j < 3 → defaultValue (tyX2 j) = zdv (zkd (tyX2 j)) := by decide +kernel
theorem zpnX2 : plainName RX2 = true := by decide +kernel
theorem zcX3 : zC 3 RX3 TX3 1 tyX3 := ⟨rfl, (show ∀ w ∈ u_ws RX3 TX3 1, w ∈ zTb from List.forall_mem_cons.mpr ⟨zTb_k zTc2 (List.mem_of_getElem? (i := 203) rfl) rfl, fun _ h => absurd h List.not_mem_nil⟩), tyX3_ok, nmX3, rfl, by decide, by decide +kernel⟩
theorem zdfX3 : ∀ j, j < 1 → defaultValue (tyX3 j) = zdv (zkd (tyX3 j)) := by decide +kernel
theorem zpnX3 : plainName RX3 = true := by decide +kernel
theorem zcX4 : zC 4 RX4 TX4 17 tyX4 := ⟨rfl, (show ∀ w ∈ u_ws RX4 TX4 17, w ∈ zTb from List.forall_mem_cons.mpr ⟨zTb_k zTc2 (List.mem_of_getElem? (i := 102) rfl) rfl, List.forall_mem_cons.mpr ⟨zTb_k zTc2 (List.mem_of_getElem? (i := 104) rfl) rfl, List.forall_mem_cons.mpr ⟨zTb_k zTc2 (List.mem_of_getElem? (i := 106) rfl) rfl, List.forall_mem_cons.mpr ⟨zTb_k zTc2 (List.mem_of_getElem? (i := 108) rfl) rfl, List.forall_mem_cons.mpr ⟨zTb_k zTc2 (List.mem_of_getElem? (i := 110) rfl) rfl, List.forall_mem_cons.mpr ⟨zTb_k zTc2 (List.mem_of_getElem? (i := 112) rfl) rfl, List.forall_mem_cons.mpr ⟨zTb_k zTc2 (List.mem_of_getElem? (i := 114) rfl) rfl, List.forall_mem_cons.mpr ⟨zTb_k zTc2 (List.mem_of_getElem? (i := 116) rfl) rfl, List.forall_mem_cons.mpr ⟨zTb_k zTc2 (List.mem_of_getElem? (i := 118) rfl) rfl, List.forall_mem_cons.mpr ⟨zTb_k zTc2 (List.mem_of_getElem? (i := 120) rfl) rfl, List.forall_mem_cons.mpr ⟨zTb_k zTc2 (List.mem_of_getElem? (i := 122) rfl) rfl, List.forall_mem_cons.mpr ⟨zTb_k zTc2 (List.mem_of_getElem? (i := 124) rfl) rfl, List.forall_mem_cons.mpr ⟨zTb_k zTc2 (List.mem_of_getElem? (i := 126) rfl) rfl, List.forall_mem_cons.mpr ⟨zTb_k zTc2 (List.mem_of_getElem? (i := 128) rfl) rfl, List.forall_mem_cons.mpr ⟨zTb_k zTc2 (List.mem_of_getElem? (i := 130) rfl) rfl, List.forall_mem_cons.mpr ⟨zTb_k zTc2 (List.mem_of_getElem? (i := 132) rfl) rfl, List.forall_mem_cons.mpr ⟨zTb_k zTc2 (List.mem_of_getElem? (i := 134) rfl) rfl, fun _ h => absurd h List.not_mem_nil⟩⟩⟩⟩⟩⟩⟩⟩⟩⟩⟩⟩⟩⟩⟩⟩⟩), tyX4_ok, nmX4, rfl, by decide, by decide +kernel⟩
theorem zdfX4 : ∀ j, j < 17 → defaultValue (tyX4 j) = zdv (zkd (tyX4 j)) := by decide +kernel
theorem zpnX4 : plainName RX4 = true := by decide +kernel
theorem zcX5 : zC 5 RX5 TX5 15 tyX5 := ⟨rfl, (show ∀ w ∈ u_ws RX5 TX5 15, w ∈ zTb from List.forall_mem_cons.mpr ⟨zTb_k zTc2 (List.mem_of_getElem? (i := 164) rfl) rfl, List.forall_mem_cons.mpr ⟨zTb_k zTc2 (List.mem_of_getElem? (i := 166) rfl) rfl, List.forall_mem_cons.mpr ⟨zTb_k zTc2 (List.mem_of_getElem? (i := 168) rfl) rfl, List.forall_mem_cons.mpr ⟨zTb_k zTc2 (List.mem_of_getElem? (i := 170) rfl) rfl, List.forall_mem_cons.mpr ⟨zTb_k zTc2 (List.mem_of_getElem? (i := 172) rfl) rfl, List.forall_mem_cons.mpr ⟨zTb_k zTc2 (List.mem_of_getElem? (i := 174) rfl) rfl, List.forall_mem_cons.mpr ⟨zTb_k zTc2 (List.mem_of_getElem? (i := 176) rfl) rfl, List.forall_mem_cons.mpr ⟨zTb_k zTc2 (List.mem_of_getElem? (i := 178) rfl) rfl, List.forall_mem_cons.mpr ⟨zTb_k zTc2 (List.mem_of_getElem? (i := 180) rfl) rfl, List.forall_mem_cons.mpr ⟨zTb_k zTc2 (List.mem_of_getElem? (i := 182) rfl) rfl, List.forall_mem_cons.mpr ⟨zTb_k zTc2 (List.mem_of_getElem? (i := 184) rfl) rfl, List.forall_mem_cons.mpr ⟨zTb_k zTc2 (List.mem_of_getElem? (i := 186) rfl) rfl, List.forall_mem_cons.mpr ⟨zTb_k zTc2 (List.mem_of_getElem? (i := 188) rfl) rfl, List.forall_mem_cons.mpr ⟨zTb_k zTc2 (List.mem_of_getElem? (i := 190) rfl) rfl, List.forall_mem_cons.mpr ⟨zTb_k zTc2 (List.mem_of_getElem? (i := 192) rfl) rfl, fun _ h => absurd h List.not_mem_nil⟩⟩⟩⟩⟩⟩⟩⟩⟩⟩⟩⟩⟩⟩⟩), tyX5_ok, nmX5, rfl, by decide, by decide +kernel⟩
theorem zdfX5 : ∀ j, j < 15 → defaultValue (tyX5 j) = zdv (zkd (tyX5 j)) := by decide +kernel
theorem zpnX5 : plainName RX5 = true := by decide +kernel
theorem zcX6 : zC 6 RX6 TX6 10 tyX6 := ⟨rfl, (show ∀ w ∈ u_ws RX6 TX6 10, w ∈ zTb from List.forall_mem_cons.mpr ⟨zTb_k zTc1 (List.mem_of_getElem? (i := 68) rfl) rfl, List.forall_mem_cons.mpr ⟨zTb_k zTc1 (List.mem_of_getElem? (i := 70) rfl) rfl, List.forall_mem_cons.mpr ⟨zTb_k zTc1 (List.mem_of_getElem? (i := 72) rfl) rfl, List.forall_mem_cons.mpr ⟨zTb_k zTc1 (List.mem_of_getElem? (i := 74) rfl) rfl, List.forall_mem_cons.mpr ⟨zTb_k zTc1 (List.mem_of_getElem? (i := 76) rfl) rfl, List.forall_mem_cons.mpr ⟨zTb_k zTc1 (List.mem_of_getElem? (i := 78) rfl) rfl, List.forall_mem_cons.mpr ⟨zTb_k zTc1 (List.mem_of_getElem? (i := 80) rfl) rfl, List.forall_mem_cons.mpr ⟨zTb_k zTc1 (List.mem_of_getElem? (i := 82) rfl) rfl, List.forall_mem_cons.mpr ⟨zTb_k zTc1 (List.mem_of_getElem? (i := 84) rfl) rfl, List.forall_mem_cons.mpr ⟨zTb_k zTc1 (List.mem_of_getElem? (i := 86) rfl) rfl, fun _ h => absurd h List.not_mem_nil⟩⟩⟩⟩⟩⟩⟩⟩⟩⟩), tyX6_ok, nmX6, rfl, by decide, by decide +kernel⟩
theorem zdfX6 : ∀ j, j < 10 → defaultValue (tyX6 j) = zdv (zkd (tyX6 j)) := by decide +kernel
theorem zpnX6 : plainName RX6 = true := by decide +kernel
theorem zcX7 : zC 7 RX7 TX7 4 tyX7 := ⟨rfl, (show ∀ w ∈ u_ws RX7 TX7 4, w ∈ zTb from List.forall_mem_cons.mpr ⟨zTb_k zTc2 (List.mem_of_getElem? (i := 11) rfl) rfl, List.forall_mem_cons.mpr ⟨zTb_k zTc2 (List.mem_of_getElem? (i := 13) rfl) rfl, List.forall_mem_cons.mpr ⟨zTb_k zTc2 (List.mem_of_getElem? (i := 15) rfl) rfl, List.forall_mem_cons.mpr ⟨zTb_k zTc2 (List.mem_of_getElem? (i := 17) rfl) rfl, fun _ h => absurd h List.not_mem_nil⟩⟩⟩⟩), tyX7_ok, nmX7, rfl, by decide, by decide +kernel⟩
theorem zdfX7 : ∀ j, j < 4 → defaultValue (tyX7 j) = zdv (zkd (tyX7 j)) := by decide +kernel
theorem zpnX7 : plainName RX7 = true := by decide +kernel
theorem zcX8 : zC 8 RX8 TX8 5 tyX8 := ⟨rfl, (show ∀ w ∈ u_ws RX8 TX8 5, w ∈ zTb from List.forall_mem_cons.mpr ⟨zTb_k zTc2 (List.mem_of_getElem? (i := 38) rfl) rfl, List.forall_mem_cons.mpr ⟨zTb_k zTc2 (List.mem_of_getElem? (i := 40) rfl) rfl, List.forall_mem_cons.mpr ⟨zTb_k zTc2 (List.mem_of_getElem? (i := 42) rfl) rfl, List.forall_mem_cons.mpr ⟨zTb_k zTc2 (List.mem_of_getElem? (i := 44) rfl) rfl, List.forall_mem_cons.mpr ⟨zTb_k zTc2 (List.mem_of_getElem? (i := 46) rfl) rfl, fun _ h => absurd h List.not_mem_nil⟩⟩⟩⟩⟩), tyX8_ok, nmX8, rfl, by decide, by decide +kernel⟩
theorem zdfX8 : ∀ j, j < 5 → defaultValue (tyX8 j) = zdv (zkd (tyX8 j)) := by decide +kernel
theorem zpnX8 : plainName RX8 = true := by decide +kernel
theorem zcX9 : zC 9 RX9 TX9 2 tyX9 := ⟨rfl, (show ∀ w ∈ u_ws RX9 TX9 2, w ∈ zTb from List.forall_mem_cons.mpr ⟨zTb_k zTc2 (List.mem_of_getElem? (i := 61) rfl) rfl, List.forall_mem_cons.mpr ⟨zTb_k zTc2 (List.mem_of_getElem? (i := 63) rfl) rfl, fun _ h => absurd h List.not_mem_nil⟩⟩), tyX9_ok, nmX9, rfl, by decide, by decide +kernel⟩
theorem zdfX9 : ∀ j, j < 2 → defaultValue (tyX9 j) = zdv (zkd (tyX9 j)) := by decide +kernel
theorem zpnX9 : plainName RX9 = true := by decide +kernel
theorem zcX10 : zC 10 RX10 TX10 4 tyX10 := ⟨rfl, (show ∀ w ∈ u_ws RX10 TX10 4, w ∈ zTb from List.forall_mem_cons.mpr ⟨zTb_k zTc1 (List.mem_of_getElem? (i := 48) rfl) rfl, List.forall_mem_cons.mpr ⟨zTb_k zTc1 (List.mem_of_getElem? (i := 50) rfl) rfl, List.forall_mem_cons.mpr ⟨zTb_k zTc1 (List.mem_of_getElem? (i := 52) rfl) rfl, List.forall_mem_cons.mpr ⟨zTb_k zTc1 (List.mem_of_getElem? (i := 54) rfl) rfl, fun _ h => absurd h List.not_mem_nil⟩⟩⟩⟩), tyX10_ok, nmX10, rfl, by decide, by decide +kernel⟩
theorem zdfX10 : ∀ j, j < 4 → defaultValue (tyX10 j) = zdv (zkd (tyX10 j)) := by decide +kernel
theorem zpnX10 : plainName RX10 = true := by decide +kernel
theorem zcX11 : zC 11 RX11 TX11 16 tyX11 := ⟨rfl, (show ∀ w ∈ u_ws RX11 TX11 16, w ∈ zTb from List.forall_mem_cons.mpr ⟨zTb_k zTc2 (List.mem_of_getElem? (i := 222) rfl) rfl, List.forall_mem_cons.mpr ⟨zTb_k zTc2 (List.mem_of_getElem? (i := 224) rfl) rfl, List.forall_mem_cons.mpr ⟨zTb_k zTc2 (List.mem_of_getElem? (i := 226) rfl) rfl, List.forall_mem_cons.mpr ⟨zTb_k zTc2 (List.mem_of_getElem? (i := 228) rfl) rfl, List.forall_mem_cons.mpr ⟨zTb_k zTc2 (List.mem_of_getElem? (i := 230) rfl) rfl, List.forall_mem_cons.mpr ⟨zTb_k zTc2 (List.mem_of_getElem? (i := 232) rfl) rfl, List.forall_mem_cons.mpr ⟨zTb_k zTc2 (List.mem_of_getElem? (i := 234) rfl) rfl, List.forall_mem_cons.mpr ⟨zTb_k zTc2 (List.mem_of_getElem? (i := 236) rfl) rfl, List.forall_mem_cons.mpr ⟨zTb_k zTc2 (List.mem_of_getElem? (i := 238) rfl) rfl, List.forall_mem_cons.mpr ⟨zTb_k zTc3 (List.mem_of_getElem? (i := 0) rfl) rfl, List.forall_mem_cons.mpr ⟨zTb_k zTc3 (List.mem_of_getElem? (i := 2) rfl) rfl, List.forall_mem_cons.mpr ⟨zTb_k zTc3 (List.mem_of_getElem? (i := 4) rfl) rfl, List.forall_mem_cons.mpr ⟨zTb_k zTc3 (List.mem_of_getElem? (i := 6) rfl) rfl, List.forall_mem_cons.mpr ⟨zTb_k zTc3 (List.mem_of_getElem? (i := 8) rfl) rfl, List.forall_mem_cons.mpr ⟨zTb_k zTc3 (List.mem_of_getElem? (i := 10) rfl) rfl, List.forall_mem_cons.mpr ⟨zTb_k zTc3 (List.mem_of_getElem? (i := 12) rfl) rfl, fun _ h => absurd h List.not_mem_nil⟩⟩⟩⟩⟩⟩⟩⟩⟩⟩⟩⟩⟩⟩⟩⟩), tyX11_ok, nmX11, rfl, by decide, by decide +kernel⟩
theorem zdfX11 : ∀ j, j < 16 → defaultValue (tyX11 j) = zdv (zkd (tyX11 j)) := by decide +kernel
theorem zpnX11 : plainName RX11 = true := by decide +kernel
theorem zcX12 : zC 12 RX12 TX12 68 tyX12 := ⟨rfl, (show ∀ w ∈ u_ws RX12 TX12 68, w ∈ zTb from List.forall_mem_cons.mpr ⟨zTb_k zTc6 (List.mem_of_getElem? (i := 55) rfl) rfl, List.forall_mem_cons.mpr ⟨zTb_k zTc6 (List.mem_of_getElem? (i := 57) rfl) rfl, List.forall_mem_cons.mpr ⟨zTb_k zTc6 (List.mem_of_getElem? (i := 59) rfl) rfl, List.forall_mem_cons.mpr ⟨zTb_k zTc6 (List.mem_of_getElem? (i := 61) rfl) rfl, List.forall_mem_cons.mpr ⟨zTb_k zTc6 (List.mem_of_getElem? (i := 63) rfl) rfl, List.forall_mem_cons.mpr ⟨zTb_k zTc6 (List.mem_of_getElem? (i := 65) rfl) rfl, List.forall_mem_cons.mpr ⟨zTb_k zTc6 (List.mem_of_getElem? (i := 67) rfl) rfl, List.forall_mem_cons.mpr ⟨zTb_k zTc6 (List.mem_of_getElem? (i := 69) rfl) rfl, List.forall_mem_cons.mpr ⟨zTb_k zTc6 (List.mem_of_getElem? (i := 71) rfl) rfl, List.forall_mem_cons.mpr ⟨zTb_k zTc6 (List.mem_of_getElem? (i := 73) rfl) rfl, List.forall_mem_cons.mpr ⟨zTb_k zTc6 (List.mem_of_getElem? (i := 75) rfl) rfl, List.forall_mem_cons.mpr ⟨zTb_k zTc6 (List.mem_of_getElem? (i := 77) rfl) rfl, List.forall_mem_cons.mpr ⟨zTb_k zTc6 (List.mem_of_getElem? (i := 79) rfl) rfl, List.forall_mem_cons.mpr ⟨zTb_k zTc6 (List.mem_of_getElem? (i := 81) rfl) rfl, List.forall_mem_cons.mpr ⟨zTb_k zTc6 (List.mem_of_getElem? (i := 83) rfl) rfl, List.forall_mem_cons.mpr ⟨zTb_k zTc6 (List.mem_of_getElem? (i := 85) rfl) rfl, List.forall_mem_cons.mpr ⟨zTb_k zTc6 (List.mem_of_getElem? (i := 87) rfl) rfl, List.forall_mem_cons.mpr ⟨zTb_k zTc6 (List.mem_of_getElem? (i := 89) rfl) rfl, List.forall_mem_cons.mpr ⟨zTb_k zTc6 (List.mem_of_getElem? (i := 91) rfl) rfl, List.forall_mem_cons.mpr ⟨zTb_k zTc6 (List.mem_of_getElem? (i := 93) rfl) rfl, List.forall_mem_cons.mpr ⟨zTb_k zTc6 (List.mem_of_getElem? (i := 95) rfl) rfl, List.forall_mem_cons.mpr ⟨zTb_k zTc6 (List.mem_of_getElem? (i := 97) rfl) rfl, List.forall_mem_cons.mpr ⟨zTb_k zTc6 (List.mem_of_getElem? (i := 99) rfl) rfl, List.forall_mem_cons.mpr ⟨zTb_k zTc6 (List.mem_of_getElem? (i := 101) rfl) rfl, List.forall_mem_cons.mpr ⟨zTb_k zTc6 (List.mem_of_getElem? (i := 103) rfl) rfl, List.forall_mem_cons.mpr ⟨zTb_k zTc6 (List.mem_of_getElem? (i := 105) rfl) rfl, List.forall_mem_cons.mpr ⟨zTb_k zTc6 (List.mem_of_getElem? (i := 107) rfl) rfl, List.forall_mem_cons.mpr ⟨zTb_k zTc6 (List.mem_of_getElem? (i := 109) rfl) rfl, List.forall_mem_cons.mpr ⟨zTb_k zTc6 (List.mem_of_getElem? (i := 111) rfl) rfl, List.forall_mem_cons.mpr ⟨zTb_k zTc6 (List.mem_of_getElem? (i := 113) rfl) rfl, List.forall_mem_cons.mpr ⟨zTb_k zTc6 (List.mem_of_getElem? (i := 115) rfl) rfl, List.forall_mem_cons.mpr ⟨zTb_k zTc6 (List.mem_of_getElem? (i := 117) rfl) rfl, List.forall_mem_cons.mpr ⟨zTb_k zTc6 (List.mem_of_getElem? (i := 119) rfl) rfl, List.forall_mem_cons.mpr ⟨zTb_k zTc6 (List.mem_of_getElem? (i := 121) rfl) rfl, List.forall_mem_cons.mpr ⟨zTb_k zTc6 (List.mem_of_getElem? (i := 123) rfl) rfl, List.forall_mem_cons.mpr ⟨zTb_k zTc6 (List.mem_of_getElem? (i := 125) rfl) rfl, List.forall_mem_cons.mpr ⟨zTb_k zTc6 (List.mem_of_getElem? (i := 127) rfl) rfl, List.forall_mem_cons.mpr ⟨zTb_k zTc6 (List.mem_of_getElem? (i := 129) rfl) rfl, List.forall_mem_cons.mpr ⟨zTb_k zTc6 (List.mem_of_getElem? (i := 131) rfl) rfl, List.forall_mem_cons.mpr ⟨zTb_k zTc6 (List.mem_of_getElem? (i := 133) rfl) rfl, List.forall_mem_cons.mpr ⟨zTb_k zTc6 (List.mem_of_getElem? (i := 135) rfl) rfl, List.forall_mem_cons.mpr ⟨zTb_k zTc6 (List.mem_of_getElem? (i := 137) rfl) rfl, List.forall_mem_cons.mpr ⟨zTb_k zTc6 (List.mem_of_getElem? (i := 139) rfl) rfl, List.forall_mem_cons.mpr ⟨zTb_k zTc6 (List.mem_of_getElem? (i := 141) rfl) rfl, List.forall_mem_cons.mpr ⟨zTb_k zTc6 (List.mem_of_getElem? (i := 143) rfl) rfl, List.forall_mem_cons.mpr ⟨zTb_k zTc6 (List.mem_of_getElem? (i := 145) rfl) rfl, List.forall_mem_cons.mpr ⟨zTb_k zTc6 (List.mem_of_getElem? (i := 147) rfl) rfl, List.forall_mem_cons.mpr ⟨zTb_k zTc6 (List.mem_of_getElem? (i := 149) rfl) rfl, List.forall_mem_cons.mpr ⟨zTb_k zTc6 (List.mem_of_getElem? (i := 151) rfl) rfl, List.forall_mem_cons.mpr ⟨zTb_k zTc6 (List.mem_of_getElem? (i := 153) rfl) rfl, List.forall_mem_cons.mpr ⟨zTb_k zTc6 (List.mem_of_getElem? (i := 155) rfl) rfl, List.forall_mem_cons.mpr ⟨zTb_k zTc6 (List.mem_of_getElem? (i := 157) rfl) rfl, List.forall_mem_cons.mpr ⟨zTb_k zTc6 (List.mem_of_getElem? (i := 159) rfl) rfl, List.forall_mem_cons.mpr ⟨zTb_k zTc6 (List.mem_of_getElem? (i := 161) rfl) rfl, List.forall_mem_cons.mpr ⟨zTb_k zTc6 (List.mem_of_getElem? (i := 163) rfl) rfl, List.forall_mem_cons.mpr ⟨zTb_k zTc6 (List.mem_of_getElem? (i := 165) rfl) rfl, List.forall_mem_cons.mpr ⟨zTb_k zTc6 (List.mem_of_getElem? (i := 167) rfl) rfl, List.forall_mem_cons.mpr ⟨zTb_k zTc6 (List.mem_of_getElem? (i := 169) rfl) rfl, List.forall_mem_cons.mpr ⟨zTb_k zTc6 (List.mem_of_getElem? (i := 171) rfl) rfl, List.forall_mem_cons.mpr ⟨zTb_k zTc6 (List.mem_of_getElem? (i := 173) rfl) rfl, List.forall_mem_cons.mpr ⟨zTb_k zTc6 (List.mem_of_getElem? (i := 175) rfl) rfl, List.forall_mem_cons.mpr ⟨zTb_k zTc6 (List.mem_of_getElem? (i := 177) rfl) rfl, List.forall_mem_cons.mpr ⟨zTb_k zTc6 (List.mem_of_getElem? (i := 179) rfl) rfl, List.forall_mem_cons.mpr ⟨zTb_k zTc6 (List.mem_of_getElem? (i := 181) rfl) rfl, List.forall_mem_cons.mpr ⟨zTb_k zTc6 (List.mem_of_getElem? (i := 183) rfl) rfl, List.forall_mem_cons.mpr ⟨zTb_k zTc6 (List.mem_of_getElem? (i := 185) rfl) rfl, List.forall_mem_cons.mpr ⟨zTb_k zTc6 (List.mem_of_getElem? (i := 187) rfl) rfl, List.forall_mem_cons.mpr ⟨zTb_k zTc6 (List.mem_of_getElem? (i := 189) rfl) rfl, fun _ h => absurd h List.not_mem_nil⟩⟩⟩⟩⟩⟩⟩⟩⟩⟩⟩⟩⟩⟩⟩⟩⟩⟩⟩⟩⟩⟩⟩⟩⟩⟩⟩⟩⟩⟩⟩⟩⟩⟩⟩⟩⟩⟩⟩⟩⟩⟩⟩⟩⟩⟩⟩⟩⟩⟩⟩⟩⟩⟩⟩⟩⟩⟩⟩⟩⟩⟩⟩⟩⟩⟩⟩⟩), tyX12_ok, nmX12, rfl, by decide, by decide +kernel⟩
theorem zdfX12 : ∀ j, j < 68 → defaultValue (tyX12 j) = zdv (zkd (tyX12 j)) := by decide +kernel
theorem zpnX12 : plainName RX12 = true := by decide +kernel
theorem zpnJ6 : plainName RJ6 = true := by decide +kernel
theorem zpnJ0 : plainName RJ0 = true := by decide +kernel
theorem zpnJ1 : plainName RJ1 = true := by decide +kernel
theorem zpnJ3 : plainName RJ3 = true := by decide +kernel
def mX0_init : zM := (RX0, yX0_init, cX0_init, 1, none)
def mX0_clear : zM := (RX0, yX0_clear, cX0_clear, 1, none)
def mX0_take : zM := (RX0, yX0_take, cX0_take, 2, none)
def mX0_tellThing : zM := (RX0, yX0_tellThing, cX0_tellThing, 4, none)
def mX0_has : zM := (RX0, yX0_has, cX0_has, 2, some .boolean)
def mX0_hasAll : zM := (RX0, yX0_hasAll, cX0_hasAll, 2, some .boolean)
def mX0_firstOwed : zM := (RX0, yX0_firstOwed, cX0_firstOwed, 3, some .int)
def mX0_isLost : zM := (RX0, yX0_isLost, cX0_isLost, 3, some .boolean)
def mX0_lostBy : zM := (RX0, yX0_lostBy, cX0_lostBy, 4, some .int)
def mX0_earnings : zM := (RX0, yX0_earnings, cX0_earnings, 5, some .int)
def mX0_needing : zM := (RX0, yX0_needing, cX0_needing, 5, some .int)
def mX0_cousinLendsIn : zM := (RX0, yX0_cousinLendsIn, cX0_cousinLendsIn, 2, some .boolean)
def mX1_init : zM := (RX1, yX1_init, cX1_init, 1, none)
def mX1_take : zM := (RX1, yX1_take, cX1_take, 2, none)
def mX1_add : zM := (RX1, yX1_add, cX1_add, 4, none)
def mX1_holding : zM := (RX1, yX1_holding, cX1_holding, 5, some .int)
def mX1_together : zM := (RX1, yX1_together, cX1_together, 5, some .int)
def mX2_init : zM := (RX2, yX2_init, cX2_init, 1, none)
def mX2_clear : zM := (RX2, yX2_clear, cX2_clear, 1, none)
def mX2_take : zM := (RX2, yX2_take, cX2_take, 2, none)
def mX2_add : zM := (RX2, yX2_add, cX2_add, 3, none)
def mX2_kindAt : zM := (RX2, yX2_kindAt, cX2_kindAt, 2, some .int)
def mX2_numberAt : zM := (RX2, yX2_numberAt, cX2_numberAt, 2, some .int)
def mX2_asks : zM := (RX2, yX2_asks, cX2_asks, 2, some .boolean)
def mX3_init : zM := (RX3, yX3_init, cX3_init, 1, none)
def mX3_work : zM := (RX3, yX3_work, cX3_work, 6, some .long)
def mX4_init : zM := (RX4, yX4_init, cX4_init, 3, none)
def mX4_begin : zM := (RX4, yX4_begin, cX4_begin, 2, none)
def mX4_isWell : zM := (RX4, yX4_isWell, cX4_isWell, 1, some .boolean)
def mX4_liveByRow : zM := (RX4, yX4_liveByRow, cX4_liveByRow, 6, none)
def mX4_liveByRule : zM := (RX4, yX4_liveByRule, cX4_liveByRule, 7, none)
def mX4_startWeek : zM := (RX4, yX4_startWeek, cX4_startWeek, 2, none)
def mX4_endWeek : zM := (RX4, yX4_endWeek, cX4_endWeek, 5, none)
def mX4_thingsIn : zM := (RX4, yX4_thingsIn, cX4_thingsIn, 1, some .int)
def mX4_isIn : zM := (RX4, yX4_isIn, cX4_isIn, 2, some .boolean)
def mX4_owedNow : zM := (RX4, yX4_owedNow, cX4_owedNow, 3, some .int)
def mX4_doActs : zM := (RX4, yX4_doActs, cX4_doActs, 5, some .int)
def mX4_doAct : zM := (RX4, yX4_doAct, cX4_doAct, 4, some .boolean)
def mX4_fetchOne : zM := (RX4, yX4_fetchOne, cX4_fetchOne, 3, some .boolean)
def mX4_putOne : zM := (RX4, yX4_putOne, cX4_putOne, 3, some .boolean)
def mX4_sellOne : zM := (RX4, yX4_sellOne, cX4_sellOne, 2, some .boolean)
def mX4_halveOne : zM := (RX4, yX4_halveOne, cX4_halveOne, 5, some .boolean)
def mX4_borrowOnce : zM := (RX4, yX4_borrowOnce, cX4_borrowOnce, 2, some .boolean)
def mX4_likedMost : zM := (RX4, yX4_likedMost, cX4_likedMost, 9, some .int)
def mX4_liking : zM := (RX4, yX4_liking, cX4_liking, 7, some .long)
def mX5_init : zM := (RX5, yX5_init, cX5_init, 3, none)
def mX5_prepare : zM := (RX5, yX5_prepare, cX5_prepare, 2, none)
def mX5_countStates : zM := (RX5, yX5_countStates, cX5_countStates, 2, none)
def mX5_lastSet : zM := (RX5, yX5_lastSet, cX5_lastSet, 2, some .int)
def mX5_fillGains : zM := (RX5, yX5_fillGains, cX5_fillGains, 8, none)
def mX5_fillHolding : zM := (RX5, yX5_fillHolding, cX5_fillHolding, 4, none)
def mX5_start : zM := (RX5, yX5_start, cX5_start, 4, none)
def mX5_pass : zM := (RX5, yX5_pass, cX5_pass, 8, none)
def mX5_fetchAnywhere : zM := (RX5, yX5_fetchAnywhere, cX5_fetchAnywhere, 6, none)
def mX5_shift : zM := (RX5, yX5_shift, cX5_shift, 3, none)
def mX5_mostIn : zM := (RX5, yX5_mostIn, cX5_mostIn, 3, some .int)
def mX5_coinAt : zM := (RX5, yX5_coinAt, cX5_coinAt, 3, some .int)
def mX5_tracePlan : zM := (RX5, yX5_tracePlan, cX5_tracePlan, 6, none)
def mX5_setAhead : zM := (RX5, yX5_setAhead, cX5_setAhead, 8, some .int)
def mX5_costOf : zM := (RX5, yX5_costOf, cX5_costOf, 5, some .int)
def mX5_firstAllHome : zM := (RX5, yX5_firstAllHome, cX5_firstAllHome, 2, some .int)
def mX5_richest : zM := (RX5, yX5_richest, cX5_richest, 4, some .int)
def mX5_worthOf : zM := (RX5, yX5_worthOf, cX5_worthOf, 4, some .int)
def mX5_gainsWithout : zM := (RX5, yX5_gainsWithout, cX5_gainsWithout, 3, some (.array .int))
def mX5_hanging : zM := (RX5, yX5_hanging, cX5_hanging, 3, some .int)
def mX5_keyThing : zM := (RX5, yX5_keyThing, cX5_keyThing, 6, some .int)
def mX5_bestNeverPut : zM := (RX5, yX5_bestNeverPut, cX5_bestNeverPut, 4, some .int)
def mX5_bestBorrowing : zM := (RX5, yX5_bestBorrowing, cX5_bestBorrowing, 3, some .int)
def mX5_borrowingWeek : zM := (RX5, yX5_borrowingWeek, cX5_borrowingWeek, 1, some .int)
def mX5_bestSelling : zM := (RX5, yX5_bestSelling, cX5_bestSelling, 4, some .int)
def mX5_bestSellingFromLine : zM := (RX5, yX5_bestSellingFromLine, cX5_bestSellingFromLine, 4, some .int)
def mX5_sellingWeek : zM := (RX5, yX5_sellingWeek, cX5_sellingWeek, 6, some .int)
def mX6_init : zM := (RX6, yX6_init, cX6_init, 1, none)
def mX6_open : zM := (RX6, yX6_open, cX6_open, 5, none)
def mX6_next : zM := (RX6, yX6_next, cX6_next, 1, none)
def mX6_readBook : zM := (RX6, yX6_readBook, cX6_readBook, 6, some .int)
def mX6_readRule : zM := (RX6, yX6_readRule, cX6_readRule, 6, some .int)
def mX6_startClause : zM := (RX6, yX6_startClause, cX6_startClause, 3, some .int)
def mX6_isClause : zM := (RX6, yX6_isClause, cX6_isClause, 1, some .boolean)
def mX6_isOnceOnly : zM := (RX6, yX6_isOnceOnly, cX6_isOnceOnly, 1, some .boolean)
def mX6_isAtEnd : zM := (RX6, yX6_isAtEnd, cX6_isAtEnd, 1, some .boolean)
def mX6_readThing : zM := (RX6, yX6_readThing, cX6_readThing, 7, none)
def mX6_readExtra : zM := (RX6, yX6_readExtra, cX6_readExtra, 4, none)
def mX6_readSet : zM := (RX6, yX6_readSet, cX6_readSet, 5, none)
def mX6_readNeed : zM := (RX6, yX6_readNeed, cX6_readNeed, 3, none)
def mX6_readCousin : zM := (RX6, yX6_readCousin, cX6_readCousin, 2, none)
def mX6_readLike : zM := (RX6, yX6_readLike, cX6_readLike, 3, none)
def mX6_readIf : zM := (RX6, yX6_readIf, cX6_readIf, 2, some .int)
def mX6_readTest : zM := (RX6, yX6_readTest, cX6_readTest, 4, none)
def mX6_readFact : zM := (RX6, yX6_readFact, cX6_readFact, 4, none)
def mX6_readSign : zM := (RX6, yX6_readSign, cX6_readSign, 2, some .int)
def mX6_readSum : zM := (RX6, yX6_readSum, cX6_readSum, 5, none)
def mX6_readValue : zM := (RX6, yX6_readValue, cX6_readValue, 1, none)
def mX6_isValueWord : zM := (RX6, yX6_isValueWord, cX6_isValueWord, 1, some .boolean)
def mX6_number : zM := (RX6, yX6_number, cX6_number, 4, some .int)
def mX6_expect : zM := (RX6, yX6_expect, cX6_expect, 2, none)
def mX6_fail : zM := (RX6, yX6_fail, cX6_fail, 2, none)
def mX7_init : zM := (RX7, yX7_init, cX7_init, 1, none)
def mX7_take : zM := (RX7, yX7_take, cX7_take, 2, none)
def mX7_canTake : zM := (RX7, yX7_canTake, cX7_canTake, 2, some .boolean)
def mX7_add : zM := (RX7, yX7_add, cX7_add, 4, none)
def mX8_init : zM := (RX8, yX8_init, cX8_init, 1, none)
def mX8_clear : zM := (RX8, yX8_clear, cX8_clear, 1, none)
def mX8_add : zM := (RX8, yX8_add, cX8_add, 3, none)
def mX8_valueIn : zM := (RX8, yX8_valueIn, cX8_valueIn, 3, some .long)
def mX9_init : zM := (RX9, yX9_init, cX9_init, 1, none)
def mX9_place : zM := (RX9, yX9_place, cX9_place, 4, none)
def mX9_valueAt : zM := (RX9, yX9_valueAt, cX9_valueAt, 7, some .long)
def mX9_wordValue : zM := (RX9, yX9_wordValue, cX9_wordValue, 2, some .long)
def mX9_joined : zM := (RX9, yX9_joined, cX9_joined, 5, some .long)
def mX10_init : zM := (RX10, yX10_init, cX10_init, 1, none)
def mX10_split : zM := (RX10, yX10_split, cX10_split, 5, none)
def mX10_add : zM := (RX10, yX10_add, cX10_add, 4, none)
def mX10_splitOne : zM := (RX10, yX10_splitOne, cX10_splitOne, 7, some .int)
def mX10_behindRun : zM := (RX10, yX10_behindRun, cX10_behindRun, 6, some .int)
def mX10_numberIn : zM := (RX10, yX10_numberIn, cX10_numberIn, 5, some .int)
def mX10_wordIn : zM := (RX10, yX10_wordIn, cX10_wordIn, 6, some .int)
def mX10_isSame : zM := (RX10, yX10_isSame, cX10_isSame, 6, some .boolean)
def mX10_signKind : zM := (RX10, yX10_signKind, cX10_signKind, 1, some .int)
def mX11_init : zM := (RX11, yX11_init, cX11_init, 2, none)
def mX11_feed : zM := (RX11, yX11_feed, cX11_feed, 6, some .int)
def mX11_putBytes : zM := (RX11, yX11_putBytes, cX11_putBytes, 3, none)
def mX11_end : zM := (RX11, yX11_end, cX11_end, 2, some .int)
def mX11_book : zM := (RX11, yX11_book, cX11_book, 2, some .int)
def mX11_rule : zM := (RX11, yX11_rule, cX11_rule, 2, some .int)
def mX11_thing : zM := (RX11, yX11_thing, cX11_thing, 3, some .int)
def mX11_count : zM := (RX11, yX11_count, cX11_count, 2, some .int)
def mX11_owed : zM := (RX11, yX11_owed, cX11_owed, 3, some .int)
def mX11_earned : zM := (RX11, yX11_earned, cX11_earned, 4, some .int)
def mX11_isTellable : zM := (RX11, yX11_isTellable, cX11_isTellable, 1, some .boolean)
def mX11_isRule : zM := (RX11, yX11_isRule, cX11_isRule, 2, some .boolean)
def mX11_act : zM := (RX11, yX11_act, cX11_act, 5, some .int)
def mX11_row : zM := (RX11, yX11_row, cX11_row, 2, some .boolean)
def mX11_judged : zM := (RX11, yX11_judged, cX11_judged, 2, some .int)
def mX11_then : zM := (RX11, yX11_then, cX11_then, 3, some .int)
def mX11_readyPlans : zM := (RX11, yX11_readyPlans, cX11_readyPlans, 1, some (.object "OutOfPawn$Plans"))
def mX11_orLacking : zM := (RX11, yX11_orLacking, cX11_orLacking, 1, some .int)
def mX11_soon : zM := (RX11, yX11_soon, cX11_soon, 1, some .int)
def mX11_best : zM := (RX11, yX11_best, cX11_best, 3, some .int)
def mX11_fetched : zM := (RX11, yX11_fetched, cX11_fetched, 3, some .int)
def mX11_hangs : zM := (RX11, yX11_hangs, cX11_hangs, 3, some .int)
def mX11_key : zM := (RX11, yX11_key, cX11_key, 2, some .int)
def mX11_wise : zM := (RX11, yX11_wise, cX11_wise, 4, some .int)
def mX11_borrowed : zM := (RX11, yX11_borrowed, cX11_borrowed, 2, some .int)
def mX11_when : zM := (RX11, yX11_when, cX11_when, 1, some .int)
def mX11_sold : zM := (RX11, yX11_sold, cX11_sold, 3, some .int)
def mX11_selling : zM := (RX11, yX11_selling, cX11_selling, 2, some .int)
def mX11_likes : zM := (RX11, yX11_likes, cX11_likes, 7, some .long)
def mX11_ruled : zM := (RX11, yX11_ruled, cX11_ruled, 4, some .int)
def mX11_finest : zM := (RX11, yX11_finest, cX11_finest, 4, some .int)
def mX11_parts : zM := (RX11, yX11_parts, cX11_parts, 5, some .int)
def mX11_holds : zM := (RX11, yX11_holds, cX11_holds, 5, some .int)
def mX11_goes : zM := (RX11, yX11_goes, cX11_goes, 6, some .int)
def mX11_isDrawable : zM := (RX11, yX11_isDrawable, cX11_isDrawable, 2, some .boolean)
def mX11_surely : zM := (RX11, yX11_surely, cX11_surely, 4, some .int)
def mX11_chanceOf : zM := (RX11, yX11_chanceOf, cX11_chanceOf, 6, some .int)
def mX11_most : zM := (RX11, yX11_most, cX11_most, 7, some .int)
def mX11_needed : zM := (RX11, yX11_needed, cX11_needed, 6, some .int)
def mX11_pays : zM := (RX11, yX11_pays, cX11_pays, 10, some .int)
def mX11_image : zM := (RX11, yX11_image, cX11_image, 2, some .int)
def mX11_back : zM := (RX11, yX11_back, cX11_back, 2, some .int)
def mX12_init : zM := (RX12, yX12_init, cX12_init, 1, none)
def mX12_in : zM := (RX12, yX12_in, cX12_in, 6, some .boolean)
def mX12_bits : zM := (RX12, yX12_bits, cX12_bits, 3, some .int)
def mX12_clears : zM := (RX12, yX12_clears, cX12_clears, 3, none)
def mX12_feed : zM := (RX12, yX12_feed, cX12_feed, 6, some .int)
def mX12_put : zM := (RX12, yX12_put, cX12_put, 3, none)
def mX12_end : zM := (RX12, yX12_end, cX12_end, 2, some .int)
def mX12_wordOf : zM := (RX12, yX12_wordOf, cX12_wordOf, 2, some (.object "java/lang/String"))
def mX12_ruleWord : zM := (RX12, yX12_ruleWord, cX12_ruleWord, 1, some (.object "java/lang/String"))
def mX12_clauseOf : zM := (RX12, yX12_clauseOf, cX12_clauseOf, 1, some (.object "java/lang/String"))
def mX12_extraOf : zM := (RX12, yX12_extraOf, cX12_extraOf, 1, some (.object "java/lang/String"))
def mX12_fails : zM := (RX12, yX12_fails, cX12_fails, 3, none)
def mX12_sign : zM := (RX12, yX12_sign, cX12_sign, 1, some .int)
def mX12_blanks : zM := (RX12, yX12_blanks, cX12_blanks, 1, none)
def mX12_isDigit : zM := (RX12, yX12_isDigit, cX12_isDigit, 1, some .boolean)
def mX12_stands : zM := (RX12, yX12_stands, cX12_stands, 5, some .boolean)
def mX12_takes : zM := (RX12, yX12_takes, cX12_takes, 3, some .boolean)
def mX12_entry : zM := (RX12, yX12_entry, cX12_entry, 3, none)
def mX12_isCounted : zM := (RX12, yX12_isCounted, cX12_isCounted, 2, none)
def mX12_digits : zM := (RX12, yX12_digits, cX12_digits, 4, some .int)
def mX12_value : zM := (RX12, yX12_value, cX12_value, 3, none)
def mX12_term : zM := (RX12, yX12_term, cX12_term, 2, none)
def mX12_sum : zM := (RX12, yX12_sum, cX12_sum, 2, none)
def mX12_compared : zM := (RX12, yX12_compared, cX12_compared, 3, none)
def mX12_top : zM := (RX12, yX12_top, cX12_top, 1, some .int)
def mX12_opens : zM := (RX12, yX12_opens, cX12_opens, 2, none)
def mX12_answers : zM := (RX12, yX12_answers, cX12_answers, 2, none)
def mX12_fact : zM := (RX12, yX12_fact, cX12_fact, 1, some .boolean)
def mX12_test : zM := (RX12, yX12_test, cX12_test, 5, none)
def mX12_amount : zM := (RX12, yX12_amount, cX12_amount, 5, some .int)
def mX12_wasTold : zM := (RX12, yX12_wasTold, cX12_wasTold, 5, some .boolean)
def mX12_letter : zM := (RX12, yX12_letter, cX12_letter, 3, some .int)
def mX12_ifTest : zM := (RX12, yX12_ifTest, cX12_ifTest, 1, none)
def mX12_thingClause : zM := (RX12, yX12_thingClause, cX12_thingClause, 6, none)
def mX12_extra : zM := (RX12, yX12_extra, cX12_extra, 4, none)
def mX12_setClause : zM := (RX12, yX12_setClause, cX12_setClause, 4, none)
def mX12_onceClause : zM := (RX12, yX12_onceClause, cX12_onceClause, 2, none)
def mX12_bookClause : zM := (RX12, yX12_bookClause, cX12_bookClause, 5, none)
def mX12_ruleClause : zM := (RX12, yX12_ruleClause, cX12_ruleClause, 5, none)
def mX12_reads : zM := (RX12, yX12_reads, cX12_reads, 3, some .int)
def mX12_over : zM := (RX12, yX12_over, cX12_over, 3, none)
def mX12_book : zM := (RX12, yX12_book, cX12_book, 2, some .int)
def mX12_rule : zM := (RX12, yX12_rule, cX12_rule, 2, some .int)
def mX12_truth : zM := (RX12, yX12_truth, cX12_truth, 1, some .long)
def mX12_both : zM := (RX12, yX12_both, cX12_both, 5, some .long)
def mX12_answer : zM := (RX12, yX12_answer, cX12_answer, 8, some .long)
def mX12_all : zM := (RX12, yX12_all, cX12_all, 3, some .int)
def mX12_has : zM := (RX12, yX12_has, cX12_has, 2, some .boolean)
def mX12_isWeek : zM := (RX12, yX12_isWeek, cX12_isWeek, 1, some .boolean)
def mX12_isOfBook : zM := (RX12, yX12_isOfBook, cX12_isOfBook, 2, some .boolean)
def mX12_thing : zM := (RX12, yX12_thing, cX12_thing, 3, some .int)
def mX12_clausesOf : zM := (RX12, yX12_clausesOf, cX12_clausesOf, 4, some .int)
def mX12_count : zM := (RX12, yX12_count, cX12_count, 2, some .int)
def mX12_owedAtFirst : zM := (RX12, yX12_owedAtFirst, cX12_owedAtFirst, 3, some .int)
def mX12_owed : zM := (RX12, yX12_owed, cX12_owed, 3, some .int)
def mX12_comes : zM := (RX12, yX12_comes, cX12_comes, 8, some .int)
def mX12_isSet : zM := (RX12, yX12_isSet, cX12_isSet, 2, some .boolean)
def mX12_earned : zM := (RX12, yX12_earned, cX12_earned, 4, some .int)
def mX12_act : zM := (RX12, yX12_act, cX12_act, 4, some .int)
def mX12_row : zM := (RX12, yX12_row, cX12_row, 2, some .boolean)
def mX12_begins : zM := (RX12, yX12_begins, cX12_begins, 2, none)
def mX12_placed : zM := (RX12, yX12_placed, cX12_placed, 4, some .int)
def mX12_owedNow : zM := (RX12, yX12_owedNow, cX12_owedNow, 3, some .int)
def mX12_loses : zM := (RX12, yX12_loses, cX12_loses, 3, none)
def mX12_does : zM := (RX12, yX12_does, cX12_does, 6, some .boolean)
def mX12_ends : zM := (RX12, yX12_ends, cX12_ends, 6, some .boolean)
def mX12_works : zM := (RX12, yX12_works, cX12_works, 4, some .boolean)
def mX12_goesBy : zM := (RX12, yX12_goesBy, cX12_goesBy, 6, none)
def mX12_judged : zM := (RX12, yX12_judged, cX12_judged, 2, some .int)
def mX12_then : zM := (RX12, yX12_then, cX12_then, 3, some .int)
def mX12_holds : zM := (RX12, yX12_holds, cX12_holds, 5, some .int)
def mX12_surely : zM := (RX12, yX12_surely, cX12_surely, 7, some .int)
def mX12_asItIs : zM := (RX12, yX12_asItIs, cX12_asItIs, 1, none)
def mX12_gone : zM := (RX12, yX12_gone, cX12_gone, 4, some .int)
def mX12_leads : zM := (RX12, yX12_leads, cX12_leads, 9, some .int)
def mX12_fetchable : zM := (RX12, yX12_fetchable, cX12_fetchable, 3, some .int)
def mX12_plans : zM := (RX12, yX12_plans, cX12_plans, 9, none)
def mX12_planned : zM := (RX12, yX12_planned, cX12_planned, 2, some .int)
def mX12_atEnd : zM := (RX12, yX12_atEnd, cX12_atEnd, 3, some .int)
def mX12_mostCoin : zM := (RX12, yX12_mostCoin, cX12_mostCoin, 2, some .int)
def mX12_soon : zM := (RX12, yX12_soon, cX12_soon, 2, some .int)
def mX12_states : zM := (RX12, yX12_states, cX12_states, 5, some .int)
def mX12_richest : zM := (RX12, yX12_richest, cX12_richest, 5, some .int)
def mX12_best : zM := (RX12, yX12_best, cX12_best, 3, some .int)
def mX12_goesBack : zM := (RX12, yX12_goesBack, cX12_goesBack, 7, none)
def mX12_fetched : zM := (RX12, yX12_fetched, cX12_fetched, 3, some .int)
def mX12_without : zM := (RX12, yX12_without, cX12_without, 2, some .int)
def mX12_asBest : zM := (RX12, yX12_asBest, cX12_asBest, 1, some .int)
def mX12_hangsOn : zM := (RX12, yX12_hangsOn, cX12_hangsOn, 4, some .int)
def mX12_hangs : zM := (RX12, yX12_hangs, cX12_hangs, 3, some .int)
def mX12_key : zM := (RX12, yX12_key, cX12_key, 6, some .int)
def mX12_wise : zM := (RX12, yX12_wise, cX12_wise, 4, some .int)
def mX12_borrowedIn : zM := (RX12, yX12_borrowedIn, cX12_borrowedIn, 3, some .int)
def mX12_borrowed : zM := (RX12, yX12_borrowed, cX12_borrowed, 2, some .int)
def mX12_when : zM := (RX12, yX12_when, cX12_when, 5, some .int)
def mX12_soldBy : zM := (RX12, yX12_soldBy, cX12_soldBy, 4, some .int)
def mX12_sold : zM := (RX12, yX12_sold, cX12_sold, 3, some .int)
def mX12_selling : zM := (RX12, yX12_selling, cX12_selling, 6, some .int)
def mX12_isRule : zM := (RX12, yX12_isRule, cX12_isRule, 2, some .boolean)
def mX12_likesIt : zM := (RX12, yX12_likesIt, cX12_likesIt, 12, some .long)
def mX12_likes : zM := (RX12, yX12_likes, cX12_likes, 6, some .long)
def mX12_keeps : zM := (RX12, yX12_keeps, cX12_keeps, 5, some .int)
def mX12_nextOf : zM := (RX12, yX12_nextOf, cX12_nextOf, 12, some .int)
def mX12_follows : zM := (RX12, yX12_follows, cX12_follows, 6, none)
def mX12_ruled : zM := (RX12, yX12_ruled, cX12_ruled, 4, some .int)
def mX12_finest : zM := (RX12, yX12_finest, cX12_finest, 4, some .int)
def mX12_parts : zM := (RX12, yX12_parts, cX12_parts, 5, some .int)
def mX12_goes : zM := (RX12, yX12_goes, cX12_goes, 6, some .int)
def mX12_most : zM := (RX12, yX12_most, cX12_most, 7, some .int)
def mX12_needed : zM := (RX12, yX12_needed, cX12_needed, 5, some .int)
def mX12_pays : zM := (RX12, yX12_pays, cX12_pays, 7, some .int)
def mX12_carry : zM := (RX12, yX12_carry, cX12_carry, 4, none)
def mX12_carries : zM := (RX12, yX12_carries, cX12_carries, 2, none)
def mX12_image : zM := (RX12, yX12_image, cX12_image, 2, some .int)
def mX12_back : zM := (RX12, yX12_back, cX12_back, 2, some .int)
def mJ6_bitCount_0f7a4 : zM := (RJ6, yJ6_bitCount_0f7a4, cJ6_bitCount_0f7a4, 1, some .int)
def mJ0_length_8abf5 : zM := (RJ0, yJ0_length_8abf5, cJ0_length_8abf5, 1, some .int)
def mJ0_charAt_5068e : zM := (RJ0, yJ0_charAt_5068e, cJ0_charAt_5068e, 2, some .char)
def mJ0_coder_7d493 : zM := (RJ0, yJ0_coder_7d493, cJ0_coder_7d493, 1, some .byte)
def mJ0_isLatin1_aae02 : zM := (RJ0, yJ0_isLatin1_aae02, cJ0_isLatin1_aae02, 1, some .boolean)
def mJ0_checkIndex_df160 : zM := (RJ0, yJ0_checkIndex_df160, cJ0_checkIndex_df160, 2, none)
def mJ1_charAt_3b067 : zM := (RJ1, yJ1_charAt_3b067, cJ1_charAt_3b067, 2, some .char)
def mJ3_checkIndex_8e157 : zM := (RJ3, yJ3_checkIndex_8e157, cJ3_checkIndex_8e157, 3, some .int)
theorem zfX10_9 : zF RX10 9 10 0 (.array .int) true := ⟨_, _, _, _, zcX10, by decide, zTb_k zTc1 (List.mem_of_getElem? (i := 41) rfl) rfl, rfl, rfl, (fun _ => rfl)⟩
theorem zfX6_49 : zFx RX6 49 10 0 (.array .int) := ⟨_, _, _, _, zcX10, by decide, zTb_k zTc1 (List.mem_of_getElem? (i := 42) rfl) rfl, rfl⟩
theorem zfX10_15 : zF RX10 15 10 1 (.array .int) true := ⟨_, _, _, _, zcX10, by decide, zTb_k zTc1 (List.mem_of_getElem? (i := 43) rfl) rfl, rfl, rfl, (fun _ => rfl)⟩
theorem zfX6_53 : zFx RX6 53 10 1 (.array .int) := ⟨_, _, _, _, zcX10, by decide, zTb_k zTc1 (List.mem_of_getElem? (i := 44) rfl) rfl, rfl⟩
theorem zfX10_18 : zF RX10 18 10 2 (.array .int) true := ⟨_, _, _, _, zcX10, by decide, zTb_k zTc1 (List.mem_of_getElem? (i := 45) rfl) rfl, rfl, rfl, (fun _ => rfl)⟩
theorem zfX6_59 : zFx RX6 59 10 2 (.array .int) := ⟨_, _, _, _, zcX10, by decide, zTb_k zTc1 (List.mem_of_getElem? (i := 46) rfl) rfl, rfl⟩
theorem zfX10_21 : zF RX10 21 10 3 (.int) false := ⟨_, _, _, _, zcX10, by decide, zTb_k zTc1 (List.mem_of_getElem? (i := 47) rfl) rfl, rfl, rfl, (fun h => by cases h)⟩
theorem zfX6_12 : zF RX6 12 6 0 (.object "OutOfPawn$Tokens") true := ⟨_, _, _, _, zcX6, by decide, zTb_k zTc1 (List.mem_of_getElem? (i := 58) rfl) rfl, rfl, rfl, (fun _ => rfl)⟩
theorem zfX6_22 : zF RX6 22 6 1 (.int) false := ⟨_, _, _, _, zcX6, by decide, zTb_k zTc1 (List.mem_of_getElem? (i := 59) rfl) rfl, rfl, rfl, (fun h => by cases h)⟩
theorem zfX6_46 : zF RX6 46 6 2 (.int) false := ⟨_, _, _, _, zcX6, by decide, zTb_k zTc1 (List.mem_of_getElem? (i := 60) rfl) rfl, rfl, rfl, (fun h => by cases h)⟩
theorem zfX6_56 : zF RX6 56 6 3 (.int) false := ⟨_, _, _, _, zcX6, by decide, zTb_k zTc1 (List.mem_of_getElem? (i := 61) rfl) rfl, rfl, rfl, (fun h => by cases h)⟩
theorem zfX6_62 : zF RX6 62 6 4 (.int) false := ⟨_, _, _, _, zcX6, by decide, zTb_k zTc1 (List.mem_of_getElem? (i := 62) rfl) rfl, rfl, rfl, (fun h => by cases h)⟩
theorem zfX6_29 : zF RX6 29 6 5 (.int) false := ⟨_, _, _, _, zcX6, by decide, zTb_k zTc1 (List.mem_of_getElem? (i := 63) rfl) rfl, rfl, rfl, (fun h => by cases h)⟩
theorem zfX6_32 : zF RX6 32 6 6 (.int) false := ⟨_, _, _, _, zcX6, by decide, zTb_k zTc1 (List.mem_of_getElem? (i := 64) rfl) rfl, rfl, rfl, (fun h => by cases h)⟩
theorem zfX6_35 : zF RX6 35 6 7 (.int) false := ⟨_, _, _, _, zcX6, by decide, zTb_k zTc1 (List.mem_of_getElem? (i := 65) rfl) rfl, rfl, rfl, (fun h => by cases h)⟩
theorem zfX6_42 : zF RX6 42 6 8 (.boolean) false := ⟨_, _, _, _, zcX6, by decide, zTb_k zTc1 (List.mem_of_getElem? (i := 66) rfl) rfl, rfl, rfl, (fun h => by cases h)⟩
theorem zfX6_38 : zF RX6 38 6 9 (.object "OutOfPawn$Code") false := ⟨_, _, _, _, zcX6, by decide, zTb_k zTc1 (List.mem_of_getElem? (i := 67) rfl) rfl, rfl, rfl, (fun h => by cases h)⟩
theorem zfX1_9 : zF RX1 9 1 0 (.array .int) true := ⟨_, _, _, _, zcX1, by decide, zTb_k zTc1 (List.mem_of_getElem? (i := 101) rfl) rfl, rfl, rfl, (fun _ => rfl)⟩
theorem zfX1_15 : zF RX1 15 1 1 (.array .int) true := ⟨_, _, _, _, zcX1, by decide, zTb_k zTc1 (List.mem_of_getElem? (i := 102) rfl) rfl, rfl, rfl, (fun _ => rfl)⟩
theorem zfX1_18 : zF RX1 18 1 2 (.array .int) true := ⟨_, _, _, _, zcX1, by decide, zTb_k zTc1 (List.mem_of_getElem? (i := 103) rfl) rfl, rfl, rfl, (fun _ => rfl)⟩
theorem zfX0_69 : zF RX0 69 1 3 (.int) false := ⟨_, _, _, _, zcX1, by decide, zTb_k zTc1 (List.mem_of_getElem? (i := 104) rfl) rfl, rfl, rfl, (fun h => by cases h)⟩
theorem zfX1_27 : zF RX1 27 1 3 (.int) false := ⟨_, _, _, _, zcX1, by decide, zTb_k zTc1 (List.mem_of_getElem? (i := 105) rfl) rfl, rfl, rfl, (fun h => by cases h)⟩
theorem zfX11_169 : zF RX11 169 1 3 (.int) false := ⟨_, _, _, _, zcX1, by decide, zTb_k zTc1 (List.mem_of_getElem? (i := 106) rfl) rfl, rfl, rfl, (fun h => by cases h)⟩
theorem zfX2_9 : zF RX2 9 2 0 (.array .int) true := ⟨_, _, _, _, zcX2, by decide, zTb_k zTc1 (List.mem_of_getElem? (i := 122) rfl) rfl, rfl, rfl, (fun _ => rfl)⟩
theorem zfX2_15 : zF RX2 15 2 1 (.int) false := ⟨_, _, _, _, zcX2, by decide, zTb_k zTc1 (List.mem_of_getElem? (i := 123) rfl) rfl, rfl, rfl, (fun h => by cases h)⟩
theorem zfX6_182 : zF RX6 182 2 1 (.int) false := ⟨_, _, _, _, zcX2, by decide, zTb_k zTc1 (List.mem_of_getElem? (i := 124) rfl) rfl, rfl, rfl, (fun h => by cases h)⟩
theorem zfX2_19 : zF RX2 19 2 2 (.int) false := ⟨_, _, _, _, zcX2, by decide, zTb_k zTc1 (List.mem_of_getElem? (i := 125) rfl) rfl, rfl, rfl, (fun h => by cases h)⟩
theorem zfX0_50 : zF RX0 50 0 0 (.int) false := ⟨_, _, _, _, zcX0, by decide, zTb_k zTc1 (List.mem_of_getElem? (i := 141) rfl) rfl, rfl, rfl, (fun h => by cases h)⟩
theorem zfX5_111 : zF RX5 111 0 0 (.int) false := ⟨_, _, _, _, zcX0, by decide, zTb_k zTc1 (List.mem_of_getElem? (i := 142) rfl) rfl, rfl, rfl, (fun h => by cases h)⟩
theorem zfX11_112 : zF RX11 112 0 0 (.int) false := ⟨_, _, _, _, zcX0, by decide, zTb_k zTc1 (List.mem_of_getElem? (i := 143) rfl) rfl, rfl, rfl, (fun h => by cases h)⟩
theorem zfX4_131 : zF RX4 131 0 0 (.int) false := ⟨_, _, _, _, zcX0, by decide, zTb_k zTc1 (List.mem_of_getElem? (i := 144) rfl) rfl, rfl, rfl, (fun h => by cases h)⟩
theorem zfX6_137 : zF RX6 137 0 0 (.int) false := ⟨_, _, _, _, zcX0, by decide, zTb_k zTc1 (List.mem_of_getElem? (i := 145) rfl) rfl, rfl, rfl, (fun h => by cases h)⟩
theorem zfX0_54 : zF RX0 54 0 1 (.int) false := ⟨_, _, _, _, zcX0, by decide, zTb_k zTc1 (List.mem_of_getElem? (i := 146) rfl) rfl, rfl, rfl, (fun h => by cases h)⟩
theorem zfX5_78 : zF RX5 78 0 1 (.int) false := ⟨_, _, _, _, zcX0, by decide, zTb_k zTc1 (List.mem_of_getElem? (i := 147) rfl) rfl, rfl, rfl, (fun h => by cases h)⟩
theorem zfX4_78 : zF RX4 78 0 1 (.int) false := ⟨_, _, _, _, zcX0, by decide, zTb_k zTc1 (List.mem_of_getElem? (i := 148) rfl) rfl, rfl, rfl, (fun h => by cases h)⟩
theorem zfX6_102 : zF RX6 102 0 1 (.int) false := ⟨_, _, _, _, zcX0, by decide, zTb_k zTc1 (List.mem_of_getElem? (i := 149) rfl) rfl, rfl, rfl, (fun h => by cases h)⟩
theorem zfX11_150 : zF RX11 150 0 1 (.int) false := ⟨_, _, _, _, zcX0, by decide, zTb_k zTc1 (List.mem_of_getElem? (i := 150) rfl) rfl, rfl, rfl, (fun h => by cases h)⟩
theorem zfX4_44 : zF RX4 44 0 2 (.int) false := ⟨_, _, _, _, zcX0, by decide, zTb_k zTc1 (List.mem_of_getElem? (i := 151) rfl) rfl, rfl, rfl, (fun h => by cases h)⟩
theorem zfX0_57 : zF RX0 57 0 2 (.int) false := ⟨_, _, _, _, zcX0, by decide, zTb_k zTc1 (List.mem_of_getElem? (i := 152) rfl) rfl, rfl, rfl, (fun h => by cases h)⟩
theorem zfX5_64 : zF RX5 64 0 2 (.int) false := ⟨_, _, _, _, zcX0, by decide, zTb_k zTc1 (List.mem_of_getElem? (i := 153) rfl) rfl, rfl, rfl, (fun h => by cases h)⟩
theorem zfX6_99 : zF RX6 99 0 2 (.int) false := ⟨_, _, _, _, zcX0, by decide, zTb_k zTc1 (List.mem_of_getElem? (i := 154) rfl) rfl, rfl, rfl, (fun h => by cases h)⟩
theorem zfX11_153 : zF RX11 153 0 2 (.int) false := ⟨_, _, _, _, zcX0, by decide, zTb_k zTc1 (List.mem_of_getElem? (i := 155) rfl) rfl, rfl, rfl, (fun h => by cases h)⟩
theorem zfX0_60 : zF RX0 60 0 3 (.int) false := ⟨_, _, _, _, zcX0, by decide, zTb_k zTc1 (List.mem_of_getElem? (i := 156) rfl) rfl, rfl, rfl, (fun h => by cases h)⟩
theorem zfX6_93 : zF RX6 93 0 3 (.int) false := ⟨_, _, _, _, zcX0, by decide, zTb_k zTc1 (List.mem_of_getElem? (i := 157) rfl) rfl, rfl, rfl, (fun h => by cases h)⟩
theorem zfX11_156 : zF RX11 156 0 3 (.int) false := ⟨_, _, _, _, zcX0, by decide, zTb_k zTc1 (List.mem_of_getElem? (i := 158) rfl) rfl, rfl, rfl, (fun h => by cases h)⟩
theorem zfX0_63 : zF RX0 63 0 4 (.int) false := ⟨_, _, _, _, zcX0, by decide, zTb_k zTc1 (List.mem_of_getElem? (i := 159) rfl) rfl, rfl, rfl, (fun h => by cases h)⟩
theorem zfX4_117 : zF RX4 117 0 4 (.int) false := ⟨_, _, _, _, zcX0, by decide, zTb_k zTc1 (List.mem_of_getElem? (i := 160) rfl) rfl, rfl, rfl, (fun h => by cases h)⟩
theorem zfX11_159 : zF RX11 159 0 4 (.int) false := ⟨_, _, _, _, zcX0, by decide, zTb_k zTc1 (List.mem_of_getElem? (i := 161) rfl) rfl, rfl, rfl, (fun h => by cases h)⟩
theorem zfX6_176 : zF RX6 176 0 4 (.int) false := ⟨_, _, _, _, zcX0, by decide, zTb_k zTc1 (List.mem_of_getElem? (i := 162) rfl) rfl, rfl, rfl, (fun h => by cases h)⟩
theorem zfX5_202 : zF RX5 202 0 4 (.int) false := ⟨_, _, _, _, zcX0, by decide, zTb_k zTc1 (List.mem_of_getElem? (i := 163) rfl) rfl, rfl, rfl, (fun h => by cases h)⟩
theorem zfX0_66 : zF RX0 66 0 5 (.int) false := ⟨_, _, _, _, zcX0, by decide, zTb_k zTc1 (List.mem_of_getElem? (i := 164) rfl) rfl, rfl, rfl, (fun h => by cases h)⟩
theorem zfX4_114 : zF RX4 114 0 5 (.int) false := ⟨_, _, _, _, zcX0, by decide, zTb_k zTc1 (List.mem_of_getElem? (i := 165) rfl) rfl, rfl, rfl, (fun h => by cases h)⟩
theorem zfX11_162 : zF RX11 162 0 5 (.int) false := ⟨_, _, _, _, zcX0, by decide, zTb_k zTc1 (List.mem_of_getElem? (i := 166) rfl) rfl, rfl, rfl, (fun h => by cases h)⟩
theorem zfX6_179 : zF RX6 179 0 5 (.int) false := ⟨_, _, _, _, zcX0, by decide, zTb_k zTc1 (List.mem_of_getElem? (i := 167) rfl) rfl, rfl, rfl, (fun h => by cases h)⟩
theorem zfX5_208 : zF RX5 208 0 5 (.int) false := ⟨_, _, _, _, zcX0, by decide, zTb_k zTc1 (List.mem_of_getElem? (i := 168) rfl) rfl, rfl, rfl, (fun h => by cases h)⟩
theorem zfX0_9 : zF RX0 9 0 6 (.array .int) true := ⟨_, _, _, _, zcX0, by decide, zTb_k zTc1 (List.mem_of_getElem? (i := 169) rfl) rfl, rfl, rfl, (fun _ => rfl)⟩
theorem zfX4_73 : zFx RX4 73 0 6 (.array .int) := ⟨_, _, _, _, zcX0, by decide, zTb_k zTc1 (List.mem_of_getElem? (i := 170) rfl) rfl, rfl⟩
theorem zfX11_132 : zFx RX11 132 0 6 (.array .int) := ⟨_, _, _, _, zcX0, by decide, zTb_k zTc1 (List.mem_of_getElem? (i := 171) rfl) rfl, rfl⟩
theorem zfX5_196 : zFx RX5 196 0 6 (.array .int) := ⟨_, _, _, _, zcX0, by decide, zTb_k zTc1 (List.mem_of_getElem? (i := 172) rfl) rfl, rfl⟩
theorem zfX0_15 : zF RX0 15 0 7 (.array .int) true := ⟨_, _, _, _, zcX0, by decide, zTb_k zTc1 (List.mem_of_getElem? (i := 173) rfl) rfl, rfl, rfl, (fun _ => rfl)⟩
theorem zfX4_74 : zFx RX4 74 0 7 (.array .int) := ⟨_, _, _, _, zcX0, by decide, zTb_k zTc1 (List.mem_of_getElem? (i := 174) rfl) rfl, rfl⟩
theorem zfX11_135 : zFx RX11 135 0 7 (.array .int) := ⟨_, _, _, _, zcX0, by decide, zTb_k zTc1 (List.mem_of_getElem? (i := 175) rfl) rfl, rfl⟩
theorem zfX0_18 : zF RX0 18 0 8 (.array .int) true := ⟨_, _, _, _, zcX0, by decide, zTb_k zTc1 (List.mem_of_getElem? (i := 176) rfl) rfl, rfl, rfl, (fun _ => rfl)⟩
theorem zfX11_138 : zFx RX11 138 0 8 (.array .int) := ⟨_, _, _, _, zcX0, by decide, zTb_k zTc1 (List.mem_of_getElem? (i := 177) rfl) rfl, rfl⟩
theorem zfX6_148 : zFx RX6 148 0 8 (.array .int) := ⟨_, _, _, _, zcX0, by decide, zTb_k zTc1 (List.mem_of_getElem? (i := 178) rfl) rfl, rfl⟩
theorem zfX4_191 : zFx RX4 191 0 8 (.array .int) := ⟨_, _, _, _, zcX0, by decide, zTb_k zTc1 (List.mem_of_getElem? (i := 179) rfl) rfl, rfl⟩
theorem zfX0_21 : zF RX0 21 0 9 (.array .int) true := ⟨_, _, _, _, zcX0, by decide, zTb_k zTc1 (List.mem_of_getElem? (i := 180) rfl) rfl, rfl, rfl, (fun _ => rfl)⟩
theorem zfX11_141 : zFx RX11 141 0 9 (.array .int) := ⟨_, _, _, _, zcX0, by decide, zTb_k zTc1 (List.mem_of_getElem? (i := 181) rfl) rfl, rfl⟩
theorem zfX6_151 : zFx RX6 151 0 9 (.array .int) := ⟨_, _, _, _, zcX0, by decide, zTb_k zTc1 (List.mem_of_getElem? (i := 182) rfl) rfl, rfl⟩
theorem zfX4_165 : zFx RX4 165 0 9 (.array .int) := ⟨_, _, _, _, zcX0, by decide, zTb_k zTc1 (List.mem_of_getElem? (i := 183) rfl) rfl, rfl⟩
theorem zfX0_24 : zF RX0 24 0 10 (.array .int) true := ⟨_, _, _, _, zcX0, by decide, zTb_k zTc1 (List.mem_of_getElem? (i := 184) rfl) rfl, rfl, rfl, (fun _ => rfl)⟩
theorem zfX11_144 : zFx RX11 144 0 10 (.array .int) := ⟨_, _, _, _, zcX0, by decide, zTb_k zTc1 (List.mem_of_getElem? (i := 185) rfl) rfl, rfl⟩
theorem zfX6_154 : zFx RX6 154 0 10 (.array .int) := ⟨_, _, _, _, zcX0, by decide, zTb_k zTc1 (List.mem_of_getElem? (i := 186) rfl) rfl, rfl⟩
theorem zfX4_168 : zFx RX4 168 0 10 (.array .int) := ⟨_, _, _, _, zcX0, by decide, zTb_k zTc1 (List.mem_of_getElem? (i := 187) rfl) rfl, rfl⟩
theorem zfX5_217 : zFx RX5 217 0 10 (.array .int) := ⟨_, _, _, _, zcX0, by decide, zTb_k zTc1 (List.mem_of_getElem? (i := 188) rfl) rfl, rfl⟩
theorem zfX0_27 : zF RX0 27 0 11 (.array .int) true := ⟨_, _, _, _, zcX0, by decide, zTb_k zTc1 (List.mem_of_getElem? (i := 189) rfl) rfl, rfl, rfl, (fun _ => rfl)⟩
theorem zfX11_147 : zFx RX11 147 0 11 (.array .int) := ⟨_, _, _, _, zcX0, by decide, zTb_k zTc1 (List.mem_of_getElem? (i := 190) rfl) rfl, rfl⟩
theorem zfX6_157 : zFx RX6 157 0 11 (.array .int) := ⟨_, _, _, _, zcX0, by decide, zTb_k zTc1 (List.mem_of_getElem? (i := 191) rfl) rfl, rfl⟩
theorem zfX5_179 : zFx RX5 179 0 11 (.array .int) := ⟨_, _, _, _, zcX0, by decide, zTb_k zTc1 (List.mem_of_getElem? (i := 192) rfl) rfl, rfl⟩
theorem zfX4_196 : zFx RX4 196 0 11 (.array .int) := ⟨_, _, _, _, zcX0, by decide, zTb_k zTc1 (List.mem_of_getElem? (i := 193) rfl) rfl, rfl⟩
theorem zfX0_33 : zF RX0 33 0 12 (.object "OutOfPawn$Clauses") true := ⟨_, _, _, _, zcX0, by decide, zTb_k zTc1 (List.mem_of_getElem? (i := 194) rfl) rfl, rfl, rfl, (fun _ => rfl)⟩
theorem zfX5_136 : zFx RX5 136 0 12 (.object "OutOfPawn$Clauses") := ⟨_, _, _, _, zcX0, by decide, zTb_k zTc1 (List.mem_of_getElem? (i := 195) rfl) rfl, rfl⟩
theorem zfX11_165 : zFx RX11 165 0 12 (.object "OutOfPawn$Clauses") := ⟨_, _, _, _, zcX0, by decide, zTb_k zTc1 (List.mem_of_getElem? (i := 196) rfl) rfl, rfl⟩
theorem zfX6_160 : zFx RX6 160 0 12 (.object "OutOfPawn$Clauses") := ⟨_, _, _, _, zcX0, by decide, zTb_k zTc1 (List.mem_of_getElem? (i := 197) rfl) rfl, rfl⟩
theorem zfX0_37 : zF RX0 37 0 13 (.object "OutOfPawn$Clauses") true := ⟨_, _, _, _, zcX0, by decide, zTb_k zTc1 (List.mem_of_getElem? (i := 198) rfl) rfl, rfl, rfl, (fun _ => rfl)⟩
theorem zfX5_145 : zFx RX5 145 0 13 (.object "OutOfPawn$Clauses") := ⟨_, _, _, _, zcX0, by decide, zTb_k zTc1 (List.mem_of_getElem? (i := 199) rfl) rfl, rfl⟩
theorem zfX11_172 : zFx RX11 172 0 13 (.object "OutOfPawn$Clauses") := ⟨_, _, _, _, zcX0, by decide, zTb_k zTc1 (List.mem_of_getElem? (i := 200) rfl) rfl, rfl⟩
theorem zfX6_173 : zFx RX6 173 0 13 (.object "OutOfPawn$Clauses") := ⟨_, _, _, _, zcX0, by decide, zTb_k zTc1 (List.mem_of_getElem? (i := 201) rfl) rfl, rfl⟩
theorem zfX0_43 : zF RX0 43 0 14 (.object "OutOfPawn$Code") true := ⟨_, _, _, _, zcX0, by decide, zTb_k zTc1 (List.mem_of_getElem? (i := 202) rfl) rfl, rfl, rfl, (fun _ => rfl)⟩
theorem zfX5_52 : zFx RX5 52 0 14 (.object "OutOfPawn$Code") := ⟨_, _, _, _, zcX0, by decide, zTb_k zTc1 (List.mem_of_getElem? (i := 203) rfl) rfl, rfl⟩
theorem zfX6_70 : zFx RX6 70 0 14 (.object "OutOfPawn$Code") := ⟨_, _, _, _, zcX0, by decide, zTb_k zTc1 (List.mem_of_getElem? (i := 204) rfl) rfl, rfl⟩
theorem zfX7_9 : zF RX7 9 7 0 (.array .int) true := ⟨_, _, _, _, zcX7, by decide, zTb_k zTc2 (List.mem_of_getElem? (i := 2) rfl) rfl, rfl, rfl, (fun _ => rfl)⟩
theorem zfX4_134 : zFx RX4 134 7 0 (.array .int) := ⟨_, _, _, _, zcX7, by decide, zTb_k zTc2 (List.mem_of_getElem? (i := 3) rfl) rfl, rfl⟩
theorem zfX7_15 : zF RX7 15 7 1 (.array .int) true := ⟨_, _, _, _, zcX7, by decide, zTb_k zTc2 (List.mem_of_getElem? (i := 4) rfl) rfl, rfl, rfl, (fun _ => rfl)⟩
theorem zfX4_136 : zFx RX4 136 7 1 (.array .int) := ⟨_, _, _, _, zcX7, by decide, zTb_k zTc2 (List.mem_of_getElem? (i := 5) rfl) rfl, rfl⟩
theorem zfX7_18 : zF RX7 18 7 2 (.array .int) true := ⟨_, _, _, _, zcX7, by decide, zTb_k zTc2 (List.mem_of_getElem? (i := 6) rfl) rfl, rfl, rfl, (fun _ => rfl)⟩
theorem zfX4_139 : zFx RX4 139 7 2 (.array .int) := ⟨_, _, _, _, zcX7, by decide, zTb_k zTc2 (List.mem_of_getElem? (i := 7) rfl) rfl, rfl⟩
theorem zfX7_27 : zF RX7 27 7 3 (.int) false := ⟨_, _, _, _, zcX7, by decide, zTb_k zTc2 (List.mem_of_getElem? (i := 8) rfl) rfl, rfl, rfl, (fun h => by cases h)⟩
theorem zfX4_97 : zF RX4 97 7 3 (.int) false := ⟨_, _, _, _, zcX7, by decide, zTb_k zTc2 (List.mem_of_getElem? (i := 9) rfl) rfl, rfl, rfl, (fun h => by cases h)⟩
theorem zfX11_105 : zF RX11 105 7 3 (.int) false := ⟨_, _, _, _, zcX7, by decide, zTb_k zTc2 (List.mem_of_getElem? (i := 10) rfl) rfl, rfl, rfl, (fun h => by cases h)⟩
theorem zfX8_9 : zF RX8 9 8 0 (.array .int) true := ⟨_, _, _, _, zcX8, by decide, zTb_k zTc2 (List.mem_of_getElem? (i := 29) rfl) rfl, rfl, rfl, (fun _ => rfl)⟩
theorem zfX8_15 : zF RX8 15 8 1 (.array .int) true := ⟨_, _, _, _, zcX8, by decide, zTb_k zTc2 (List.mem_of_getElem? (i := 30) rfl) rfl, rfl, rfl, (fun _ => rfl)⟩
theorem zfX8_25 : zF RX8 25 8 2 (.int) false := ⟨_, _, _, _, zcX8, by decide, zTb_k zTc2 (List.mem_of_getElem? (i := 31) rfl) rfl, rfl, rfl, (fun h => by cases h)⟩
theorem zfX8_29 : zF RX8 29 8 3 (.int) false := ⟨_, _, _, _, zcX8, by decide, zTb_k zTc2 (List.mem_of_getElem? (i := 32) rfl) rfl, rfl, rfl, (fun h => by cases h)⟩
theorem zfX6_117 : zF RX6 117 8 3 (.int) false := ⟨_, _, _, _, zcX8, by decide, zTb_k zTc2 (List.mem_of_getElem? (i := 33) rfl) rfl, rfl, rfl, (fun h => by cases h)⟩
theorem zfX4_174 : zF RX4 174 8 3 (.int) false := ⟨_, _, _, _, zcX8, by decide, zTb_k zTc2 (List.mem_of_getElem? (i := 34) rfl) rfl, rfl, rfl, (fun h => by cases h)⟩
theorem zfX8_21 : zF RX8 21 8 4 (.object "OutOfPawn$Code") true := ⟨_, _, _, _, zcX8, by decide, zTb_k zTc2 (List.mem_of_getElem? (i := 35) rfl) rfl, rfl, rfl, (fun _ => rfl)⟩
theorem zfX6_112 : zFx RX6 112 8 4 (.object "OutOfPawn$Code") := ⟨_, _, _, _, zcX8, by decide, zTb_k zTc2 (List.mem_of_getElem? (i := 36) rfl) rfl, rfl⟩
theorem zfX4_199 : zFx RX4 199 8 4 (.object "OutOfPawn$Code") := ⟨_, _, _, _, zcX8, by decide, zTb_k zTc2 (List.mem_of_getElem? (i := 37) rfl) rfl, rfl⟩
theorem zfX9_9 : zF RX9 9 9 0 (.array .long) true := ⟨_, _, _, _, zcX9, by decide, zTb_k zTc2 (List.mem_of_getElem? (i := 57) rfl) rfl, rfl, rfl, (fun _ => rfl)⟩
theorem zfX5_148 : zFx RX5 148 9 0 (.array .long) := ⟨_, _, _, _, zcX9, by decide, zTb_k zTc2 (List.mem_of_getElem? (i := 58) rfl) rfl, rfl⟩
theorem zfX4_187 : zFx RX4 187 9 0 (.array .long) := ⟨_, _, _, _, zcX9, by decide, zTb_k zTc2 (List.mem_of_getElem? (i := 59) rfl) rfl, rfl⟩
theorem zfX9_15 : zF RX9 15 9 1 (.array .long) true := ⟨_, _, _, _, zcX9, by decide, zTb_k zTc2 (List.mem_of_getElem? (i := 60) rfl) rfl, rfl, rfl, (fun _ => rfl)⟩
theorem zfX4_9 : zF RX4 9 4 0 (.object "OutOfPawn$Book") true := ⟨_, _, _, _, zcX4, by decide, zTb_k zTc2 (List.mem_of_getElem? (i := 76) rfl) rfl, rfl, rfl, (fun _ => rfl)⟩
theorem zfX4_15 : zF RX4 15 4 1 (.object "OutOfPawn$Scene") true := ⟨_, _, _, _, zcX4, by decide, zTb_k zTc2 (List.mem_of_getElem? (i := 77) rfl) rfl, rfl, rfl, (fun _ => rfl)⟩
theorem zfX4_22 : zF RX4 22 4 2 (.object "OutOfPawn$Scene") true := ⟨_, _, _, _, zcX4, by decide, zTb_k zTc2 (List.mem_of_getElem? (i := 78) rfl) rfl, rfl, rfl, (fun _ => rfl)⟩
theorem zfX4_50 : zF RX4 50 4 3 (.int) false := ⟨_, _, _, _, zcX4, by decide, zTb_k zTc2 (List.mem_of_getElem? (i := 79) rfl) rfl, rfl, rfl, (fun h => by cases h)⟩
theorem zfX11_211 : zF RX11 211 4 3 (.int) false := ⟨_, _, _, _, zcX4, by decide, zTb_k zTc2 (List.mem_of_getElem? (i := 80) rfl) rfl, rfl, rfl, (fun h => by cases h)⟩
theorem zfX4_51 : zF RX4 51 4 4 (.int) false := ⟨_, _, _, _, zcX4, by decide, zTb_k zTc2 (List.mem_of_getElem? (i := 81) rfl) rfl, rfl, rfl, (fun h => by cases h)⟩
theorem zfX11_212 : zF RX11 212 4 4 (.int) false := ⟨_, _, _, _, zcX4, by decide, zTb_k zTc2 (List.mem_of_getElem? (i := 82) rfl) rfl, rfl, rfl, (fun h => by cases h)⟩
theorem zfX4_54 : zF RX4 54 4 5 (.int) false := ⟨_, _, _, _, zcX4, by decide, zTb_k zTc2 (List.mem_of_getElem? (i := 83) rfl) rfl, rfl, rfl, (fun h => by cases h)⟩
theorem zfX11_215 : zF RX11 215 4 5 (.int) false := ⟨_, _, _, _, zcX4, by decide, zTb_k zTc2 (List.mem_of_getElem? (i := 84) rfl) rfl, rfl, rfl, (fun h => by cases h)⟩
theorem zfX4_57 : zF RX4 57 4 6 (.int) false := ⟨_, _, _, _, zcX4, by decide, zTb_k zTc2 (List.mem_of_getElem? (i := 85) rfl) rfl, rfl, rfl, (fun h => by cases h)⟩
theorem zfX11_205 : zF RX11 205 4 6 (.int) false := ⟨_, _, _, _, zcX4, by decide, zTb_k zTc2 (List.mem_of_getElem? (i := 86) rfl) rfl, rfl, rfl, (fun h => by cases h)⟩
theorem zfX4_60 : zF RX4 60 4 7 (.int) false := ⟨_, _, _, _, zcX4, by decide, zTb_k zTc2 (List.mem_of_getElem? (i := 87) rfl) rfl, rfl, rfl, (fun h => by cases h)⟩
theorem zfX11_208 : zF RX11 208 4 7 (.int) false := ⟨_, _, _, _, zcX4, by decide, zTb_k zTc2 (List.mem_of_getElem? (i := 88) rfl) rfl, rfl, rfl, (fun h => by cases h)⟩
theorem zfX4_63 : zF RX4 63 4 8 (.int) false := ⟨_, _, _, _, zcX4, by decide, zTb_k zTc2 (List.mem_of_getElem? (i := 89) rfl) rfl, rfl, rfl, (fun h => by cases h)⟩
theorem zfX11_218 : zF RX11 218 4 8 (.int) false := ⟨_, _, _, _, zcX4, by decide, zTb_k zTc2 (List.mem_of_getElem? (i := 90) rfl) rfl, rfl, rfl, (fun h => by cases h)⟩
theorem zfX4_25 : zF RX4 25 4 9 (.array .int) true := ⟨_, _, _, _, zcX4, by decide, zTb_k zTc2 (List.mem_of_getElem? (i := 91) rfl) rfl, rfl, rfl, (fun _ => rfl)⟩
theorem zfX11_221 : zFx RX11 221 4 9 (.array .int) := ⟨_, _, _, _, zcX4, by decide, zTb_k zTc2 (List.mem_of_getElem? (i := 92) rfl) rfl, rfl⟩
theorem zfX4_29 : zF RX4 29 4 10 (.array .int) true := ⟨_, _, _, _, zcX4, by decide, zTb_k zTc2 (List.mem_of_getElem? (i := 93) rfl) rfl, rfl, rfl, (fun _ => rfl)⟩
theorem zfX11_224 : zFx RX11 224 4 10 (.array .int) := ⟨_, _, _, _, zcX4, by decide, zTb_k zTc2 (List.mem_of_getElem? (i := 94) rfl) rfl, rfl⟩
theorem zfX4_32 : zF RX4 32 4 11 (.array .int) true := ⟨_, _, _, _, zcX4, by decide, zTb_k zTc2 (List.mem_of_getElem? (i := 95) rfl) rfl, rfl, rfl, (fun _ => rfl)⟩
theorem zfX11_297 : zFx RX11 297 4 11 (.array .int) := ⟨_, _, _, _, zcX4, by decide, zTb_k zTc2 (List.mem_of_getElem? (i := 96) rfl) rfl, rfl⟩
theorem zfX4_35 : zF RX4 35 4 12 (.array .int) true := ⟨_, _, _, _, zcX4, by decide, zTb_k zTc2 (List.mem_of_getElem? (i := 97) rfl) rfl, rfl, rfl, (fun _ => rfl)⟩
theorem zfX4_38 : zF RX4 38 4 13 (.array .int) true := ⟨_, _, _, _, zcX4, by decide, zTb_k zTc2 (List.mem_of_getElem? (i := 98) rfl) rfl, rfl, rfl, (fun _ => rfl)⟩
theorem zfX4_41 : zF RX4 41 4 14 (.array .int) true := ⟨_, _, _, _, zcX4, by decide, zTb_k zTc2 (List.mem_of_getElem? (i := 99) rfl) rfl, rfl, rfl, (fun _ => rfl)⟩
theorem zfX4_66 : zF RX4 66 4 15 (.int) false := ⟨_, _, _, _, zcX4, by decide, zTb_k zTc2 (List.mem_of_getElem? (i := 100) rfl) rfl, rfl, rfl, (fun h => by cases h)⟩
theorem zfX4_69 : zF RX4 69 4 16 (.boolean) false := ⟨_, _, _, _, zcX4, by decide, zTb_k zTc2 (List.mem_of_getElem? (i := 101) rfl) rfl, rfl, rfl, (fun h => by cases h)⟩
theorem zfX5_9 : zF RX5 9 5 0 (.object "OutOfPawn$Book") true := ⟨_, _, _, _, zcX5, by decide, zTb_k zTc2 (List.mem_of_getElem? (i := 143) rfl) rfl, rfl, rfl, (fun _ => rfl)⟩
theorem zfX5_15 : zF RX5 15 5 1 (.object "OutOfPawn$Scene") true := ⟨_, _, _, _, zcX5, by decide, zTb_k zTc2 (List.mem_of_getElem? (i := 144) rfl) rfl, rfl, rfl, (fun _ => rfl)⟩
theorem zfX5_44 : zF RX5 44 5 2 (.boolean) false := ⟨_, _, _, _, zcX5, by decide, zTb_k zTc2 (List.mem_of_getElem? (i := 145) rfl) rfl, rfl, rfl, (fun h => by cases h)⟩
theorem zfX11_108 : zF RX11 108 5 2 (.boolean) false := ⟨_, _, _, _, zcX5, by decide, zTb_k zTc2 (List.mem_of_getElem? (i := 146) rfl) rfl, rfl, rfl, (fun h => by cases h)⟩
theorem zfX5_98 : zF RX5 98 5 3 (.int) false := ⟨_, _, _, _, zcX5, by decide, zTb_k zTc2 (List.mem_of_getElem? (i := 147) rfl) rfl, rfl, rfl, (fun h => by cases h)⟩
theorem zfX11_244 : zF RX11 244 5 3 (.int) false := ⟨_, _, _, _, zcX5, by decide, zTb_k zTc2 (List.mem_of_getElem? (i := 148) rfl) rfl, rfl, rfl, (fun h => by cases h)⟩
theorem zfX5_105 : zF RX5 105 5 4 (.int) false := ⟨_, _, _, _, zcX5, by decide, zTb_k zTc2 (List.mem_of_getElem? (i := 149) rfl) rfl, rfl, rfl, (fun h => by cases h)⟩
theorem zfX11_247 : zF RX11 247 5 4 (.int) false := ⟨_, _, _, _, zcX5, by decide, zTb_k zTc2 (List.mem_of_getElem? (i := 150) rfl) rfl, rfl, rfl, (fun h => by cases h)⟩
theorem zfX5_72 : zF RX5 72 5 5 (.int) false := ⟨_, _, _, _, zcX5, by decide, zTb_k zTc2 (List.mem_of_getElem? (i := 151) rfl) rfl, rfl, rfl, (fun h => by cases h)⟩
theorem zfX11_238 : zF RX11 238 5 5 (.int) false := ⟨_, _, _, _, zcX5, by decide, zTb_k zTc2 (List.mem_of_getElem? (i := 152) rfl) rfl, rfl, rfl, (fun h => by cases h)⟩
theorem zfX5_75 : zF RX5 75 5 6 (.int) false := ⟨_, _, _, _, zcX5, by decide, zTb_k zTc2 (List.mem_of_getElem? (i := 153) rfl) rfl, rfl, rfl, (fun h => by cases h)⟩
theorem zfX11_241 : zF RX11 241 5 6 (.int) false := ⟨_, _, _, _, zcX5, by decide, zTb_k zTc2 (List.mem_of_getElem? (i := 154) rfl) rfl, rfl, rfl, (fun h => by cases h)⟩
theorem zfX5_19 : zF RX5 19 5 7 (.array .int) true := ⟨_, _, _, _, zcX5, by decide, zTb_k zTc2 (List.mem_of_getElem? (i := 155) rfl) rfl, rfl, rfl, (fun _ => rfl)⟩
theorem zfX11_253 : zFx RX11 253 5 7 (.array .int) := ⟨_, _, _, _, zcX5, by decide, zTb_k zTc2 (List.mem_of_getElem? (i := 156) rfl) rfl, rfl⟩
theorem zfX5_23 : zF RX5 23 5 8 (.array .int) true := ⟨_, _, _, _, zcX5, by decide, zTb_k zTc2 (List.mem_of_getElem? (i := 157) rfl) rfl, rfl, rfl, (fun _ => rfl)⟩
theorem zfX5_26 : zF RX5 26 5 9 (.array .int) true := ⟨_, _, _, _, zcX5, by decide, zTb_k zTc2 (List.mem_of_getElem? (i := 158) rfl) rfl, rfl, rfl, (fun _ => rfl)⟩
theorem zfX5_29 : zF RX5 29 5 10 (.array .int) true := ⟨_, _, _, _, zcX5, by decide, zTb_k zTc2 (List.mem_of_getElem? (i := 159) rfl) rfl, rfl, rfl, (fun _ => rfl)⟩
theorem zfX5_32 : zF RX5 32 5 11 (.array .int) true := ⟨_, _, _, _, zcX5, by decide, zTb_k zTc2 (List.mem_of_getElem? (i := 160) rfl) rfl, rfl, rfl, (fun _ => rfl)⟩
theorem zfX5_35 : zF RX5 35 5 12 (.array .int) true := ⟨_, _, _, _, zcX5, by decide, zTb_k zTc2 (List.mem_of_getElem? (i := 161) rfl) rfl, rfl, rfl, (fun _ => rfl)⟩
theorem zfX5_38 : zF RX5 38 5 13 (.array .int) true := ⟨_, _, _, _, zcX5, by decide, zTb_k zTc2 (List.mem_of_getElem? (i := 162) rfl) rfl, rfl, rfl, (fun _ => rfl)⟩
theorem zfX5_41 : zF RX5 41 5 14 (.array .int) true := ⟨_, _, _, _, zcX5, by decide, zTb_k zTc2 (List.mem_of_getElem? (i := 163) rfl) rfl, rfl, rfl, (fun _ => rfl)⟩
theorem zfX3_9 : zF RX3 9 3 0 (.long) false := ⟨_, _, _, _, zcX3, by decide, zTb_k zTc2 (List.mem_of_getElem? (i := 201) rfl) rfl, rfl, rfl, (fun h => by cases h)⟩
theorem zfX11_308 : zF RX11 308 3 0 (.long) false := ⟨_, _, _, _, zcX3, by decide, zTb_k zTc2 (List.mem_of_getElem? (i := 202) rfl) rfl, rfl, rfl, (fun h => by cases h)⟩
theorem zfX11_9 : zF RX11 9 11 0 (.array .int) true := ⟨_, _, _, _, zcX11, by decide, zTb_k zTc2 (List.mem_of_getElem? (i := 206) rfl) rfl, rfl, rfl, (fun _ => rfl)⟩
theorem zfX11_89 : zF RX11 89 11 1 (.int) false := ⟨_, _, _, _, zcX11, by decide, zTb_k zTc2 (List.mem_of_getElem? (i := 207) rfl) rfl, rfl, rfl, (fun h => by cases h)⟩
theorem zfX11_16 : zF RX11 16 11 2 (.object "OutOfPawn$Reader") true := ⟨_, _, _, _, zcX11, by decide, zTb_k zTc2 (List.mem_of_getElem? (i := 208) rfl) rfl, rfl, rfl, (fun _ => rfl)⟩
theorem zfX11_23 : zF RX11 23 11 3 (.object "OutOfPawn$Book") true := ⟨_, _, _, _, zcX11, by decide, zTb_k zTc2 (List.mem_of_getElem? (i := 209) rfl) rfl, rfl, rfl, (fun _ => rfl)⟩
theorem zfX11_27 : zF RX11 27 11 4 (.object "OutOfPawn$Book") true := ⟨_, _, _, _, zcX11, by decide, zTb_k zTc2 (List.mem_of_getElem? (i := 210) rfl) rfl, rfl, rfl, (fun _ => rfl)⟩
theorem zfX11_33 : zF RX11 33 11 5 (.object "OutOfPawn$Row") true := ⟨_, _, _, _, zcX11, by decide, zTb_k zTc2 (List.mem_of_getElem? (i := 211) rfl) rfl, rfl, rfl, (fun _ => rfl)⟩
theorem zfX11_39 : zF RX11 39 11 6 (.array (.object "OutOfPawn$Rule")) true := ⟨_, _, _, _, zcX11, by decide, zTb_k zTc2 (List.mem_of_getElem? (i := 212) rfl) rfl, rfl, rfl, (fun _ => rfl)⟩
theorem zfX11_121 : zF RX11 121 11 7 (.int) false := ⟨_, _, _, _, zcX11, by decide, zTb_k zTc2 (List.mem_of_getElem? (i := 213) rfl) rfl, rfl, rfl, (fun h => by cases h)⟩
theorem zfX11_44 : zF RX11 44 11 8 (.array (.object "OutOfPawn$Book")) true := ⟨_, _, _, _, zcX11, by decide, zTb_k zTc2 (List.mem_of_getElem? (i := 214) rfl) rfl, rfl, rfl, (fun _ => rfl)⟩
theorem zfX11_48 : zF RX11 48 11 9 (.array (.object "OutOfPawn$Row")) true := ⟨_, _, _, _, zcX11, by decide, zTb_k zTc2 (List.mem_of_getElem? (i := 215) rfl) rfl, rfl, rfl, (fun _ => rfl)⟩
theorem zfX11_52 : zF RX11 52 11 10 (.array .boolean) true := ⟨_, _, _, _, zcX11, by decide, zTb_k zTc2 (List.mem_of_getElem? (i := 216) rfl) rfl, rfl, rfl, (fun _ => rfl)⟩
theorem zfX11_59 : zF RX11 59 11 11 (.object "OutOfPawn$Scene") true := ⟨_, _, _, _, zcX11, by decide, zTb_k zTc2 (List.mem_of_getElem? (i := 217) rfl) rfl, rfl, rfl, (fun _ => rfl)⟩
theorem zfX11_68 : zF RX11 68 11 12 (.object "OutOfPawn$Life") true := ⟨_, _, _, _, zcX11, by decide, zTb_k zTc2 (List.mem_of_getElem? (i := 218) rfl) rfl, rfl, rfl, (fun _ => rfl)⟩
theorem zfX11_75 : zF RX11 75 11 13 (.object "OutOfPawn$Plans") true := ⟨_, _, _, _, zcX11, by decide, zTb_k zTc2 (List.mem_of_getElem? (i := 219) rfl) rfl, rfl, rfl, (fun _ => rfl)⟩
theorem zfX11_82 : zF RX11 82 11 14 (.object "OutOfPawn$Draws") true := ⟨_, _, _, _, zcX11, by decide, zTb_k zTc2 (List.mem_of_getElem? (i := 220) rfl) rfl, rfl, rfl, (fun _ => rfl)⟩
theorem zfX11_86 : zF RX11 86 11 15 (.array .int) true := ⟨_, _, _, _, zcX11, by decide, zTb_k zTc2 (List.mem_of_getElem? (i := 221) rfl) rfl, rfl, rfl, (fun _ => rfl)⟩
theorem zfX12_147 : zF RX12 147 12 1 (.int) false := ⟨_, _, _, _, zcX12, by decide, zTb_k zTc5 (List.mem_of_getElem? (i := 228) rfl) rfl, rfl, rfl, (fun h => by cases h)⟩
theorem zfX12_190 : zF RX12 190 12 2 (.int) false := ⟨_, _, _, _, zcX12, by decide, zTb_k zTc5 (List.mem_of_getElem? (i := 229) rfl) rfl, rfl, rfl, (fun h => by cases h)⟩
theorem zfX12_187 : zF RX12 187 12 3 (.int) false := ⟨_, _, _, _, zcX12, by decide, zTb_k zTc5 (List.mem_of_getElem? (i := 230) rfl) rfl, rfl, rfl, (fun h => by cases h)⟩
theorem zfX12_153 : zF RX12 153 12 4 (.int) false := ⟨_, _, _, _, zcX12, by decide, zTb_k zTc5 (List.mem_of_getElem? (i := 231) rfl) rfl, rfl, rfl, (fun h => by cases h)⟩
theorem zfX12_360 : zF RX12 360 12 5 (.int) false := ⟨_, _, _, _, zcX12, by decide, zTb_k zTc5 (List.mem_of_getElem? (i := 232) rfl) rfl, rfl, rfl, (fun h => by cases h)⟩
theorem zfX12_220 : zF RX12 220 12 6 (.int) false := ⟨_, _, _, _, zcX12, by decide, zTb_k zTc5 (List.mem_of_getElem? (i := 233) rfl) rfl, rfl, rfl, (fun h => by cases h)⟩
theorem zfX12_263 : zF RX12 263 12 7 (.int) false := ⟨_, _, _, _, zcX12, by decide, zTb_k zTc5 (List.mem_of_getElem? (i := 234) rfl) rfl, rfl, rfl, (fun h => by cases h)⟩
theorem zfX12_223 : zF RX12 223 12 8 (.int) false := ⟨_, _, _, _, zcX12, by decide, zTb_k zTc5 (List.mem_of_getElem? (i := 235) rfl) rfl, rfl, rfl, (fun h => by cases h)⟩
theorem zfX12_260 : zF RX12 260 12 9 (.int) false := ⟨_, _, _, _, zcX12, by decide, zTb_k zTc5 (List.mem_of_getElem? (i := 236) rfl) rfl, rfl, rfl, (fun h => by cases h)⟩
theorem zfX12_245 : zF RX12 245 12 10 (.int) false := ⟨_, _, _, _, zcX12, by decide, zTb_k zTc5 (List.mem_of_getElem? (i := 237) rfl) rfl, rfl, rfl, (fun h => by cases h)⟩
theorem zfX12_9 : zF RX12 9 12 11 (.array .byte) true := ⟨_, _, _, _, zcX12, by decide, zTb_k zTc5 (List.mem_of_getElem? (i := 238) rfl) rfl, rfl, rfl, (fun _ => rfl)⟩
theorem zfX12_13 : zF RX12 13 12 12 (.array .int) true := ⟨_, _, _, _, zcX12, by decide, zTb_k zTc5 (List.mem_of_getElem? (i := 239) rfl) rfl, rfl, rfl, (fun _ => rfl)⟩
theorem zfX12_17 : zF RX12 17 12 13 (.array .int) true := ⟨_, _, _, _, zcX12, by decide, zTb_k zTc6 (List.mem_of_getElem? (i := 0) rfl) rfl, rfl, rfl, (fun _ => rfl)⟩
theorem zfX12_20 : zF RX12 20 12 14 (.array .int) true := ⟨_, _, _, _, zcX12, by decide, zTb_k zTc6 (List.mem_of_getElem? (i := 1) rfl) rfl, rfl, rfl, (fun _ => rfl)⟩
theorem zfX12_23 : zF RX12 23 12 15 (.array .int) true := ⟨_, _, _, _, zcX12, by decide, zTb_k zTc6 (List.mem_of_getElem? (i := 2) rfl) rfl, rfl, rfl, (fun _ => rfl)⟩
theorem zfX12_26 : zF RX12 26 12 16 (.array .int) true := ⟨_, _, _, _, zcX12, by decide, zTb_k zTc6 (List.mem_of_getElem? (i := 3) rfl) rfl, rfl, rfl, (fun _ => rfl)⟩
theorem zfX12_29 : zF RX12 29 12 17 (.array .int) true := ⟨_, _, _, _, zcX12, by decide, zTb_k zTc6 (List.mem_of_getElem? (i := 4) rfl) rfl, rfl, rfl, (fun _ => rfl)⟩
theorem zfX12_32 : zF RX12 32 12 18 (.array .int) true := ⟨_, _, _, _, zcX12, by decide, zTb_k zTc6 (List.mem_of_getElem? (i := 5) rfl) rfl, rfl, rfl, (fun _ => rfl)⟩
theorem zfX12_35 : zF RX12 35 12 19 (.array .int) true := ⟨_, _, _, _, zcX12, by decide, zTb_k zTc6 (List.mem_of_getElem? (i := 6) rfl) rfl, rfl, rfl, (fun _ => rfl)⟩
theorem zfX12_38 : zF RX12 38 12 20 (.array .int) true := ⟨_, _, _, _, zcX12, by decide, zTb_k zTc6 (List.mem_of_getElem? (i := 7) rfl) rfl, rfl, rfl, (fun _ => rfl)⟩
theorem zfX12_41 : zF RX12 41 12 21 (.array .int) true := ⟨_, _, _, _, zcX12, by decide, zTb_k zTc6 (List.mem_of_getElem? (i := 8) rfl) rfl, rfl, rfl, (fun _ => rfl)⟩
theorem zfX12_44 : zF RX12 44 12 22 (.array .int) true := ⟨_, _, _, _, zcX12, by decide, zTb_k zTc6 (List.mem_of_getElem? (i := 9) rfl) rfl, rfl, rfl, (fun _ => rfl)⟩
theorem zfX12_47 : zF RX12 47 12 23 (.array .int) true := ⟨_, _, _, _, zcX12, by decide, zTb_k zTc6 (List.mem_of_getElem? (i := 10) rfl) rfl, rfl, rfl, (fun _ => rfl)⟩
theorem zfX12_50 : zF RX12 50 12 24 (.array .int) true := ⟨_, _, _, _, zcX12, by decide, zTb_k zTc6 (List.mem_of_getElem? (i := 11) rfl) rfl, rfl, rfl, (fun _ => rfl)⟩
theorem zfX12_53 : zF RX12 53 12 25 (.array .int) true := ⟨_, _, _, _, zcX12, by decide, zTb_k zTc6 (List.mem_of_getElem? (i := 12) rfl) rfl, rfl, rfl, (fun _ => rfl)⟩
theorem zfX12_56 : zF RX12 56 12 26 (.array .int) true := ⟨_, _, _, _, zcX12, by decide, zTb_k zTc6 (List.mem_of_getElem? (i := 13) rfl) rfl, rfl, rfl, (fun _ => rfl)⟩
theorem zfX12_59 : zF RX12 59 12 27 (.array .int) true := ⟨_, _, _, _, zcX12, by decide, zTb_k zTc6 (List.mem_of_getElem? (i := 14) rfl) rfl, rfl, rfl, (fun _ => rfl)⟩
theorem zfX12_62 : zF RX12 62 12 28 (.array .int) true := ⟨_, _, _, _, zcX12, by decide, zTb_k zTc6 (List.mem_of_getElem? (i := 15) rfl) rfl, rfl, rfl, (fun _ => rfl)⟩
theorem zfX12_65 : zF RX12 65 12 29 (.array .int) true := ⟨_, _, _, _, zcX12, by decide, zTb_k zTc6 (List.mem_of_getElem? (i := 16) rfl) rfl, rfl, rfl, (fun _ => rfl)⟩
theorem zfX12_68 : zF RX12 68 12 30 (.array .int) true := ⟨_, _, _, _, zcX12, by decide, zTb_k zTc6 (List.mem_of_getElem? (i := 17) rfl) rfl, rfl, rfl, (fun _ => rfl)⟩
theorem zfX12_71 : zF RX12 71 12 31 (.array .int) true := ⟨_, _, _, _, zcX12, by decide, zTb_k zTc6 (List.mem_of_getElem? (i := 18) rfl) rfl, rfl, rfl, (fun _ => rfl)⟩
theorem zfX12_74 : zF RX12 74 12 32 (.array .int) true := ⟨_, _, _, _, zcX12, by decide, zTb_k zTc6 (List.mem_of_getElem? (i := 19) rfl) rfl, rfl, rfl, (fun _ => rfl)⟩
theorem zfX12_77 : zF RX12 77 12 33 (.array .int) true := ⟨_, _, _, _, zcX12, by decide, zTb_k zTc6 (List.mem_of_getElem? (i := 20) rfl) rfl, rfl, rfl, (fun _ => rfl)⟩
theorem zfX12_80 : zF RX12 80 12 34 (.array .long) true := ⟨_, _, _, _, zcX12, by decide, zTb_k zTc6 (List.mem_of_getElem? (i := 21) rfl) rfl, rfl, rfl, (fun _ => rfl)⟩
theorem zfX12_84 : zF RX12 84 12 35 (.array .long) true := ⟨_, _, _, _, zcX12, by decide, zTb_k zTc6 (List.mem_of_getElem? (i := 22) rfl) rfl, rfl, rfl, (fun _ => rfl)⟩
theorem zfX12_351 : zF RX12 351 12 36 (.int) false := ⟨_, _, _, _, zcX12, by decide, zTb_k zTc6 (List.mem_of_getElem? (i := 23) rfl) rfl, rfl, rfl, (fun h => by cases h)⟩
theorem zfX12_87 : zF RX12 87 12 37 (.array .int) true := ⟨_, _, _, _, zcX12, by decide, zTb_k zTc6 (List.mem_of_getElem? (i := 24) rfl) rfl, rfl, rfl, (fun _ => rfl)⟩
theorem zfX12_90 : zF RX12 90 12 38 (.array .int) true := ⟨_, _, _, _, zcX12, by decide, zTb_k zTc6 (List.mem_of_getElem? (i := 25) rfl) rfl, rfl, rfl, (fun _ => rfl)⟩
theorem zfX12_93 : zF RX12 93 12 39 (.array .int) true := ⟨_, _, _, _, zcX12, by decide, zTb_k zTc6 (List.mem_of_getElem? (i := 26) rfl) rfl, rfl, rfl, (fun _ => rfl)⟩
theorem zfX12_96 : zF RX12 96 12 40 (.array .int) true := ⟨_, _, _, _, zcX12, by decide, zTb_k zTc6 (List.mem_of_getElem? (i := 27) rfl) rfl, rfl, rfl, (fun _ => rfl)⟩
theorem zfX12_99 : zF RX12 99 12 41 (.array .int) true := ⟨_, _, _, _, zcX12, by decide, zTb_k zTc6 (List.mem_of_getElem? (i := 28) rfl) rfl, rfl, rfl, (fun _ => rfl)⟩
theorem zfX12_102 : zF RX12 102 12 42 (.array .int) true := ⟨_, _, _, _, zcX12, by decide, zTb_k zTc6 (List.mem_of_getElem? (i := 29) rfl) rfl, rfl, rfl, (fun _ => rfl)⟩
theorem zfX12_105 : zF RX12 105 12 43 (.array .int) true := ⟨_, _, _, _, zcX12, by decide, zTb_k zTc6 (List.mem_of_getElem? (i := 30) rfl) rfl, rfl, rfl, (fun _ => rfl)⟩
theorem zfX12_108 : zF RX12 108 12 44 (.array .int) true := ⟨_, _, _, _, zcX12, by decide, zTb_k zTc6 (List.mem_of_getElem? (i := 31) rfl) rfl, rfl, rfl, (fun _ => rfl)⟩
theorem zfX12_111 : zF RX12 111 12 45 (.array .int) true := ⟨_, _, _, _, zcX12, by decide, zTb_k zTc6 (List.mem_of_getElem? (i := 32) rfl) rfl, rfl, rfl, (fun _ => rfl)⟩
theorem zfX12_114 : zF RX12 114 12 46 (.array .boolean) true := ⟨_, _, _, _, zcX12, by decide, zTb_k zTc6 (List.mem_of_getElem? (i := 33) rfl) rfl, rfl, rfl, (fun _ => rfl)⟩
theorem zfX12_404 : zF RX12 404 12 47 (.boolean) false := ⟨_, _, _, _, zcX12, by decide, zTb_k zTc6 (List.mem_of_getElem? (i := 34) rfl) rfl, rfl, rfl, (fun h => by cases h)⟩
theorem zfX12_401 : zF RX12 401 12 48 (.int) false := ⟨_, _, _, _, zcX12, by decide, zTb_k zTc6 (List.mem_of_getElem? (i := 35) rfl) rfl, rfl, rfl, (fun h => by cases h)⟩
theorem zfX12_408 : zF RX12 408 12 49 (.int) false := ⟨_, _, _, _, zcX12, by decide, zTb_k zTc6 (List.mem_of_getElem? (i := 36) rfl) rfl, rfl, rfl, (fun h => by cases h)⟩
theorem zfX12_411 : zF RX12 411 12 50 (.int) false := ⟨_, _, _, _, zcX12, by decide, zTb_k zTc6 (List.mem_of_getElem? (i := 37) rfl) rfl, rfl, rfl, (fun h => by cases h)⟩
theorem zfX12_414 : zF RX12 414 12 51 (.int) false := ⟨_, _, _, _, zcX12, by decide, zTb_k zTc6 (List.mem_of_getElem? (i := 38) rfl) rfl, rfl, rfl, (fun h => by cases h)⟩
theorem zfX12_423 : zF RX12 423 12 52 (.long) false := ⟨_, _, _, _, zcX12, by decide, zTb_k zTc6 (List.mem_of_getElem? (i := 39) rfl) rfl, rfl, rfl, (fun h => by cases h)⟩
theorem zfX12_118 : zF RX12 118 12 53 (.array .int) true := ⟨_, _, _, _, zcX12, by decide, zTb_k zTc6 (List.mem_of_getElem? (i := 40) rfl) rfl, rfl, rfl, (fun _ => rfl)⟩
theorem zfX12_461 : zF RX12 461 12 54 (.int) false := ⟨_, _, _, _, zcX12, by decide, zTb_k zTc6 (List.mem_of_getElem? (i := 41) rfl) rfl, rfl, rfl, (fun h => by cases h)⟩
theorem zfX12_464 : zF RX12 464 12 55 (.int) false := ⟨_, _, _, _, zcX12, by decide, zTb_k zTc6 (List.mem_of_getElem? (i := 42) rfl) rfl, rfl, rfl, (fun h => by cases h)⟩
theorem zfX12_467 : zF RX12 467 12 56 (.int) false := ⟨_, _, _, _, zcX12, by decide, zTb_k zTc6 (List.mem_of_getElem? (i := 43) rfl) rfl, rfl, rfl, (fun h => by cases h)⟩
theorem zfX12_470 : zF RX12 470 12 57 (.int) false := ⟨_, _, _, _, zcX12, by decide, zTb_k zTc6 (List.mem_of_getElem? (i := 44) rfl) rfl, rfl, rfl, (fun h => by cases h)⟩
theorem zfX12_473 : zF RX12 473 12 58 (.int) false := ⟨_, _, _, _, zcX12, by decide, zTb_k zTc6 (List.mem_of_getElem? (i := 45) rfl) rfl, rfl, rfl, (fun h => by cases h)⟩
theorem zfX12_476 : zF RX12 476 12 59 (.int) false := ⟨_, _, _, _, zcX12, by decide, zTb_k zTc6 (List.mem_of_getElem? (i := 46) rfl) rfl, rfl, rfl, (fun h => by cases h)⟩
theorem zfX12_121 : zF RX12 121 12 60 (.array .int) true := ⟨_, _, _, _, zcX12, by decide, zTb_k zTc6 (List.mem_of_getElem? (i := 47) rfl) rfl, rfl, rfl, (fun _ => rfl)⟩
theorem zfX12_124 : zF RX12 124 12 61 (.array .int) true := ⟨_, _, _, _, zcX12, by decide, zTb_k zTc6 (List.mem_of_getElem? (i := 48) rfl) rfl, rfl, rfl, (fun _ => rfl)⟩
theorem zfX12_127 : zF RX12 127 12 62 (.array .int) true := ⟨_, _, _, _, zcX12, by decide, zTb_k zTc6 (List.mem_of_getElem? (i := 49) rfl) rfl, rfl, rfl, (fun _ => rfl)⟩
theorem zfX12_130 : zF RX12 130 12 63 (.array .int) true := ⟨_, _, _, _, zcX12, by decide, zTb_k zTc6 (List.mem_of_getElem? (i := 50) rfl) rfl, rfl, rfl, (fun _ => rfl)⟩
theorem zfX12_133 : zF RX12 133 12 64 (.array .boolean) true := ⟨_, _, _, _, zcX12, by decide, zTb_k zTc6 (List.mem_of_getElem? (i := 51) rfl) rfl, rfl, rfl, (fun _ => rfl)⟩
theorem zfX12_560 : zF RX12 560 12 65 (.int) false := ⟨_, _, _, _, zcX12, by decide, zTb_k zTc6 (List.mem_of_getElem? (i := 52) rfl) rfl, rfl, rfl, (fun h => by cases h)⟩
theorem zfX12_557 : zF RX12 557 12 66 (.boolean) false := ⟨_, _, _, _, zcX12, by decide, zTb_k zTc6 (List.mem_of_getElem? (i := 53) rfl) rfl, rfl, rfl, (fun h => by cases h)⟩
theorem zfX12_136 : zF RX12 136 12 67 (.array .int) true := ⟨_, _, _, _, zcX12, by decide, zTb_k zTc6 (List.mem_of_getElem? (i := 54) rfl) rfl, rfl, rfl, (fun _ => rfl)⟩
theorem zyJ0_38 : Cond.fieldLink RJ0 38 "java/lang/String" "COMPACT_STRINGS" "Z" ∈ zTb := zTb_k zTc3 (List.mem_of_getElem? (i := 70) rfl) rfl
theorem zyJ0_1053 : Cond.fieldLink RJ0 1053 "jdk/internal/util/Preconditions" "SIOOBE_FORMATTER" "Ljava/util/function/BiFunction;" ∈ zTb := zTb_k zTc3 (List.mem_of_getElem? (i := 86) rfl) rfl
theorem zyJ0_9 : Cond.fieldLink RJ0 9 "java/lang/String" "value" "[B" ∈ zTb := zTb_k zTc8 (List.mem_of_getElem? (i := 204) rfl) rfl
theorem zyJ0_15 : Cond.fieldLink RJ0 15 "java/lang/String" "coder" "B" ∈ zTb := zTb_k zTc8 (List.mem_of_getElem? (i := 205) rfl) rfl
theorem zkL_9 : zKC RL 9 mX11_init 0 := ⟨zTb_k zTc1 (List.mem_of_getElem? (i := 23) rfl) rfl, zTb_k zTc1 (List.mem_of_getElem? (i := 1) rfl) rfl, zTb_k zTc1 (List.mem_of_getElem? (i := 25) rfl) rfl, by decide +kernel, by decide⟩
theorem zkX11_15 : zKC RX11 15 mX6_init 0 := ⟨zTb_k zTc1 (List.mem_of_getElem? (i := 31) rfl) rfl, zTb_k zTc1 (List.mem_of_getElem? (i := 2) rfl) rfl, zTb_k zTc1 (List.mem_of_getElem? (i := 33) rfl) rfl, by decide +kernel, by decide⟩
theorem zkX6_11 : zKC RX6 11 mX10_init 0 := ⟨zTb_k zTc1 (List.mem_of_getElem? (i := 37) rfl) rfl, zTb_k zTc1 (List.mem_of_getElem? (i := 3) rfl) rfl, zTb_k zTc1 (List.mem_of_getElem? (i := 39) rfl) rfl, by decide +kernel, by decide⟩
theorem zkX11_22 : zKC RX11 22 mX0_init 0 := ⟨zTb_k zTc1 (List.mem_of_getElem? (i := 91) rfl) rfl, zTb_k zTc1 (List.mem_of_getElem? (i := 4) rfl) rfl, zTb_k zTc1 (List.mem_of_getElem? (i := 93) rfl) rfl, by decide +kernel, by decide⟩
theorem zkX0_32 : zKC RX0 32 mX1_init 0 := ⟨zTb_k zTc1 (List.mem_of_getElem? (i := 97) rfl) rfl, zTb_k zTc1 (List.mem_of_getElem? (i := 5) rfl) rfl, zTb_k zTc1 (List.mem_of_getElem? (i := 99) rfl) rfl, by decide +kernel, by decide⟩
theorem zkX0_42 : zKC RX0 42 mX2_init 0 := ⟨zTb_k zTc1 (List.mem_of_getElem? (i := 118) rfl) rfl, zTb_k zTc1 (List.mem_of_getElem? (i := 6) rfl) rfl, zTb_k zTc1 (List.mem_of_getElem? (i := 120) rfl) rfl, by decide +kernel, by decide⟩
theorem zkX0_47 : zKC RX0 47 mX0_clear 0 := ⟨zTb_k zTc1 (List.mem_of_getElem? (i := 133) rfl) rfl, zTb_k zTc1 (List.mem_of_getElem? (i := 4) rfl) rfl, zTb_k zTc1 (List.mem_of_getElem? (i := 136) rfl) rfl, by decide +kernel, by decide⟩
theorem zkX0_72 : zKC RX0 72 mX2_clear 0 := ⟨zTb_k zTc1 (List.mem_of_getElem? (i := 137) rfl) rfl, zTb_k zTc1 (List.mem_of_getElem? (i := 6) rfl) rfl, zTb_k zTc1 (List.mem_of_getElem? (i := 140) rfl) rfl, by decide +kernel, by decide⟩
theorem zkX11_32 : zKC RX11 32 mX7_init 0 := ⟨zTb_k zTc1 (List.mem_of_getElem? (i := 238) rfl) rfl, zTb_k zTc1 (List.mem_of_getElem? (i := 7) rfl) rfl, zTb_k zTc2 (List.mem_of_getElem? (i := 0) rfl) rfl, by decide +kernel, by decide⟩
theorem zkX11_43 : zKC RX11 43 mX8_init 0 := ⟨zTb_k zTc2 (List.mem_of_getElem? (i := 23) rfl) rfl, zTb_k zTc1 (List.mem_of_getElem? (i := 8) rfl) rfl, zTb_k zTc2 (List.mem_of_getElem? (i := 25) rfl) rfl, by decide +kernel, by decide⟩
theorem zkX8_20 : zKC RX8 20 mX2_init 0 := ⟨zTb_k zTc2 (List.mem_of_getElem? (i := 28) rfl) rfl, zTb_k zTc1 (List.mem_of_getElem? (i := 6) rfl) rfl, zTb_k zTc1 (List.mem_of_getElem? (i := 120) rfl) rfl, by decide +kernel, by decide⟩
theorem zkX11_58 : zKC RX11 58 mX9_init 0 := ⟨zTb_k zTc2 (List.mem_of_getElem? (i := 53) rfl) rfl, zTb_k zTc1 (List.mem_of_getElem? (i := 9) rfl) rfl, zTb_k zTc2 (List.mem_of_getElem? (i := 55) rfl) rfl, by decide +kernel, by decide⟩
theorem zkX11_65 : zKC RX11 65 mX4_init 2 := ⟨zTb_k zTc2 (List.mem_of_getElem? (i := 70) rfl) rfl, zTb_k zTc1 (List.mem_of_getElem? (i := 10) rfl) rfl, zTb_k zTc2 (List.mem_of_getElem? (i := 72) rfl) rfl, by decide +kernel, by decide⟩
theorem zkX4_21 : zKC RX4 21 mX9_init 0 := ⟨zTb_k zTc2 (List.mem_of_getElem? (i := 75) rfl) rfl, zTb_k zTc1 (List.mem_of_getElem? (i := 9) rfl) rfl, zTb_k zTc2 (List.mem_of_getElem? (i := 55) rfl) rfl, by decide +kernel, by decide⟩
theorem zkX11_74 : zKC RX11 74 mX5_init 2 := ⟨zTb_k zTc2 (List.mem_of_getElem? (i := 139) rfl) rfl, zTb_k zTc1 (List.mem_of_getElem? (i := 11) rfl) rfl, zTb_k zTc2 (List.mem_of_getElem? (i := 141) rfl) rfl, by decide +kernel, by decide⟩
theorem zkX11_81 : zKC RX11 81 mX3_init 0 := ⟨zTb_k zTc2 (List.mem_of_getElem? (i := 197) rfl) rfl, zTb_k zTc1 (List.mem_of_getElem? (i := 12) rfl) rfl, zTb_k zTc2 (List.mem_of_getElem? (i := 199) rfl) rfl, by decide +kernel, by decide⟩
theorem zkL_13 : zKC RL 13 mX11_feed 5 := ⟨zTb_k zTc3 (List.mem_of_getElem? (i := 15) rfl) rfl, zTb_k zTc1 (List.mem_of_getElem? (i := 1) rfl) rfl, zTb_k zTc3 (List.mem_of_getElem? (i := 18) rfl) rfl, by decide +kernel, by decide⟩
theorem zkX11_93 : zKC RX11 93 mX11_putBytes 1 := ⟨zTb_k zTc3 (List.mem_of_getElem? (i := 19) rfl) rfl, zTb_k zTc1 (List.mem_of_getElem? (i := 1) rfl) rfl, zTb_k zTc3 (List.mem_of_getElem? (i := 22) rfl) rfl, by decide +kernel, by decide⟩
theorem zkL_18 : zKC RL 18 mX11_end 1 := ⟨zTb_k zTc3 (List.mem_of_getElem? (i := 23) rfl) rfl, zTb_k zTc1 (List.mem_of_getElem? (i := 1) rfl) rfl, zTb_k zTc3 (List.mem_of_getElem? (i := 26) rfl) rfl, by decide +kernel, by decide⟩
theorem zkL_23 : zKC RL 23 mX11_book 0 := ⟨zTb_k zTc3 (List.mem_of_getElem? (i := 27) rfl) rfl, zTb_k zTc1 (List.mem_of_getElem? (i := 1) rfl) rfl, zTb_k zTc3 (List.mem_of_getElem? (i := 30) rfl) rfl, by decide +kernel, by decide⟩
theorem zkX11_97 : zKC RX11 97 mX6_readBook 3 := ⟨zTb_k zTc3 (List.mem_of_getElem? (i := 31) rfl) rfl, zTb_k zTc1 (List.mem_of_getElem? (i := 2) rfl) rfl, zTb_k zTc3 (List.mem_of_getElem? (i := 34) rfl) rfl, by decide +kernel, by decide⟩
theorem zkX6_65 : zKC RX6 65 mX0_clear 0 := ⟨zTb_k zTc3 (List.mem_of_getElem? (i := 35) rfl) rfl, zTb_k zTc1 (List.mem_of_getElem? (i := 4) rfl) rfl, zTb_k zTc1 (List.mem_of_getElem? (i := 136) rfl) rfl, by decide +kernel, by decide⟩
theorem zkX6_71 : zKC RX6 71 mX6_open 4 := ⟨zTb_k zTc3 (List.mem_of_getElem? (i := 36) rfl) rfl, zTb_k zTc1 (List.mem_of_getElem? (i := 2) rfl) rfl, zTb_k zTc3 (List.mem_of_getElem? (i := 39) rfl) rfl, by decide +kernel, by decide⟩
theorem zkX6_18 : zKC RX6 18 mX10_split 2 := ⟨zTb_k zTc3 (List.mem_of_getElem? (i := 40) rfl) rfl, zTb_k zTc1 (List.mem_of_getElem? (i := 3) rfl) rfl, zTb_k zTc3 (List.mem_of_getElem? (i := 43) rfl) rfl, by decide +kernel, by decide⟩
theorem zkX10_25 : zKC RX10 25 mX10_splitOne 3 := ⟨zTb_k zTc3 (List.mem_of_getElem? (i := 44) rfl) rfl, zTb_k zTc1 (List.mem_of_getElem? (i := 3) rfl) rfl, zTb_k zTc3 (List.mem_of_getElem? (i := 47) rfl) rfl, by decide +kernel, by decide⟩
theorem zkX10_33 : zKC RX10 33 mX10_behindRun 5 := ⟨zTb_k zTc3 (List.mem_of_getElem? (i := 48) rfl) rfl, zTb_k zTc1 (List.mem_of_getElem? (i := 3) rfl) rfl, zTb_k zTc3 (List.mem_of_getElem? (i := 50) rfl) rfl, by decide +kernel, by decide⟩
theorem zkX10_37 : zKC RX10 37 mX10_numberIn 3 := ⟨zTb_k zTc3 (List.mem_of_getElem? (i := 51) rfl) rfl, zTb_k zTc1 (List.mem_of_getElem? (i := 3) rfl) rfl, zTb_k zTc3 (List.mem_of_getElem? (i := 53) rfl) rfl, by decide +kernel, by decide⟩
theorem zkX10_29 : zKC RX10 29 mX10_add 3 := ⟨zTb_k zTc3 (List.mem_of_getElem? (i := 54) rfl) rfl, zTb_k zTc1 (List.mem_of_getElem? (i := 3) rfl) rfl, zTb_k zTc3 (List.mem_of_getElem? (i := 57) rfl) rfl, by decide +kernel, by decide⟩
theorem zkX10_40 : zKC RX10 40 mX10_wordIn 3 := ⟨zTb_k zTc3 (List.mem_of_getElem? (i := 58) rfl) rfl, zTb_k zTc1 (List.mem_of_getElem? (i := 3) rfl) rfl, zTb_k zTc3 (List.mem_of_getElem? (i := 60) rfl) rfl, by decide +kernel, by decide⟩
theorem zkX10_49 : zKC RX10 49 mJ0_length_8abf5 0 := ⟨zTb_k zTc3 (List.mem_of_getElem? (i := 62) rfl) rfl, zTb_k zTc1 (List.mem_of_getElem? (i := 14) rfl) rfl, zTb_k zTc3 (List.mem_of_getElem? (i := 65) rfl) rfl, by decide +kernel, by decide⟩
theorem zkJ0_335 : zKC RJ0 335 mJ0_coder_7d493 0 := ⟨zTb_k zTc3 (List.mem_of_getElem? (i := 66) rfl) rfl, zTb_k zTc1 (List.mem_of_getElem? (i := 14) rfl) rfl, zTb_k zTc3 (List.mem_of_getElem? (i := 69) rfl) rfl, by decide +kernel, by decide⟩
theorem zkX10_55 : zKC RX10 55 mJ0_charAt_5068e 1 := ⟨zTb_k zTc3 (List.mem_of_getElem? (i := 72) rfl) rfl, zTb_k zTc1 (List.mem_of_getElem? (i := 14) rfl) rfl, zTb_k zTc3 (List.mem_of_getElem? (i := 75) rfl) rfl, by decide +kernel, by decide⟩
theorem zkJ0_492 : zKC RJ0 492 mJ0_isLatin1_aae02 0 := ⟨zTb_k zTc3 (List.mem_of_getElem? (i := 76) rfl) rfl, zTb_k zTc1 (List.mem_of_getElem? (i := 14) rfl) rfl, zTb_k zTc3 (List.mem_of_getElem? (i := 79) rfl) rfl, by decide +kernel, by decide⟩
theorem zkJ0_495 : zKC RJ0 495 mJ1_charAt_3b067 2 := ⟨zTb_k zTc3 (List.mem_of_getElem? (i := 80) rfl) rfl, zTb_k zTc1 (List.mem_of_getElem? (i := 15) rfl) rfl, zTb_k zTc3 (List.mem_of_getElem? (i := 82) rfl) rfl, by decide +kernel, by decide⟩
theorem zkJ1_9 : zKC RJ1 9 mJ0_checkIndex_df160 2 := ⟨zTb_k zTc3 (List.mem_of_getElem? (i := 83) rfl) rfl, zTb_k zTc1 (List.mem_of_getElem? (i := 14) rfl) rfl, zTb_k zTc3 (List.mem_of_getElem? (i := 85) rfl) rfl, by decide +kernel, by decide⟩
theorem zkJ0_1059 : zKC RJ0 1059 mJ3_checkIndex_8e157 3 := ⟨zTb_k zTc3 (List.mem_of_getElem? (i := 88) rfl) rfl, zTb_k zTc1 (List.mem_of_getElem? (i := 16) rfl) rfl, zTb_k zTc3 (List.mem_of_getElem? (i := 90) rfl) rfl, by decide +kernel, by decide⟩
theorem zkJ2_414 : zKC RJ2 414 mJ0_checkIndex_df160 2 := ⟨zTb_k zTc3 (List.mem_of_getElem? (i := 100) rfl) rfl, zTb_k zTc1 (List.mem_of_getElem? (i := 14) rfl) rfl, zTb_k zTc3 (List.mem_of_getElem? (i := 85) rfl) rfl, by decide +kernel, by decide⟩
theorem zkX10_59 : zKC RX10 59 mX10_isSame 4 := ⟨zTb_k zTc3 (List.mem_of_getElem? (i := 110) rfl) rfl, zTb_k zTc1 (List.mem_of_getElem? (i := 3) rfl) rfl, zTb_k zTc3 (List.mem_of_getElem? (i := 112) rfl) rfl, by decide +kernel, by decide⟩
theorem zkX10_43 : zKC RX10 43 mX10_signKind 1 := ⟨zTb_k zTc3 (List.mem_of_getElem? (i := 113) rfl) rfl, zTb_k zTc1 (List.mem_of_getElem? (i := 3) rfl) rfl, zTb_k zTc3 (List.mem_of_getElem? (i := 115) rfl) rfl, by decide +kernel, by decide⟩
theorem zkX6_26 : zKC RX6 26 mX6_next 0 := ⟨zTb_k zTc3 (List.mem_of_getElem? (i := 116) rfl) rfl, zTb_k zTc1 (List.mem_of_getElem? (i := 2) rfl) rfl, zTb_k zTc3 (List.mem_of_getElem? (i := 119) rfl) rfl, by decide +kernel, by decide⟩
theorem zkX6_75 : zKC RX6 75 mX6_startClause 1 := ⟨zTb_k zTc3 (List.mem_of_getElem? (i := 120) rfl) rfl, zTb_k zTc1 (List.mem_of_getElem? (i := 2) rfl) rfl, zTb_k zTc3 (List.mem_of_getElem? (i := 123) rfl) rfl, by decide +kernel, by decide⟩
theorem zkX6_120 : zKC RX6 120 mX6_isClause 0 := ⟨zTb_k zTc3 (List.mem_of_getElem? (i := 124) rfl) rfl, zTb_k zTc1 (List.mem_of_getElem? (i := 2) rfl) rfl, zTb_k zTc3 (List.mem_of_getElem? (i := 127) rfl) rfl, by decide +kernel, by decide⟩
theorem zkX6_127 : zKC RX6 127 mX6_isOnceOnly 0 := ⟨zTb_k zTc3 (List.mem_of_getElem? (i := 128) rfl) rfl, zTb_k zTc1 (List.mem_of_getElem? (i := 2) rfl) rfl, zTb_k zTc3 (List.mem_of_getElem? (i := 131) rfl) rfl, by decide +kernel, by decide⟩
theorem zkX6_123 : zKC RX6 123 mX6_fail 1 := ⟨zTb_k zTc3 (List.mem_of_getElem? (i := 132) rfl) rfl, zTb_k zTc1 (List.mem_of_getElem? (i := 2) rfl) rfl, zTb_k zTc3 (List.mem_of_getElem? (i := 135) rfl) rfl, by decide +kernel, by decide⟩
theorem zkX6_79 : zKC RX6 79 mX6_readThing 1 := ⟨zTb_k zTc3 (List.mem_of_getElem? (i := 136) rfl) rfl, zTb_k zTc1 (List.mem_of_getElem? (i := 2) rfl) rfl, zTb_k zTc3 (List.mem_of_getElem? (i := 139) rfl) rfl, by decide +kernel, by decide⟩
theorem zkX6_133 : zKC RX6 133 mX0_has 1 := ⟨zTb_k zTc3 (List.mem_of_getElem? (i := 140) rfl) rfl, zTb_k zTc1 (List.mem_of_getElem? (i := 4) rfl) rfl, zTb_k zTc3 (List.mem_of_getElem? (i := 143) rfl) rfl, by decide +kernel, by decide⟩
theorem zkX6_89 : zKC RX6 89 mX6_number 2 := ⟨zTb_k zTc3 (List.mem_of_getElem? (i := 144) rfl) rfl, zTb_k zTc1 (List.mem_of_getElem? (i := 2) rfl) rfl, zTb_k zTc3 (List.mem_of_getElem? (i := 147) rfl) rfl, by decide +kernel, by decide⟩
theorem zkX6_140 : zKC RX6 140 mX0_tellThing 3 := ⟨zTb_k zTc3 (List.mem_of_getElem? (i := 148) rfl) rfl, zTb_k zTc1 (List.mem_of_getElem? (i := 4) rfl) rfl, zTb_k zTc3 (List.mem_of_getElem? (i := 151) rfl) rfl, by decide +kernel, by decide⟩
theorem zkX6_144 : zKC RX6 144 mX6_readExtra 3 := ⟨zTb_k zTc3 (List.mem_of_getElem? (i := 152) rfl) rfl, zTb_k zTc1 (List.mem_of_getElem? (i := 2) rfl) rfl, zTb_k zTc3 (List.mem_of_getElem? (i := 155) rfl) rfl, by decide +kernel, by decide⟩
theorem zkX6_83 : zKC RX6 83 mX6_readSet 1 := ⟨zTb_k zTc3 (List.mem_of_getElem? (i := 156) rfl) rfl, zTb_k zTc1 (List.mem_of_getElem? (i := 2) rfl) rfl, zTb_k zTc3 (List.mem_of_getElem? (i := 159) rfl) rfl, by decide +kernel, by decide⟩
theorem zkX6_130 : zKC RX6 130 mX6_expect 1 := ⟨zTb_k zTc3 (List.mem_of_getElem? (i := 160) rfl) rfl, zTb_k zTc1 (List.mem_of_getElem? (i := 2) rfl) rfl, zTb_k zTc3 (List.mem_of_getElem? (i := 163) rfl) rfl, by decide +kernel, by decide⟩
theorem zkX6_164 : zKC RX6 164 mX6_readIf 0 := ⟨zTb_k zTc3 (List.mem_of_getElem? (i := 164) rfl) rfl, zTb_k zTc1 (List.mem_of_getElem? (i := 2) rfl) rfl, zTb_k zTc3 (List.mem_of_getElem? (i := 167) rfl) rfl, by decide +kernel, by decide⟩
theorem zkX6_194 : zKC RX6 194 mX6_readTest 1 := ⟨zTb_k zTc3 (List.mem_of_getElem? (i := 168) rfl) rfl, zTb_k zTc1 (List.mem_of_getElem? (i := 2) rfl) rfl, zTb_k zTc3 (List.mem_of_getElem? (i := 171) rfl) rfl, by decide +kernel, by decide⟩
theorem zkX6_197 : zKC RX6 197 mX6_readFact 1 := ⟨zTb_k zTc3 (List.mem_of_getElem? (i := 172) rfl) rfl, zTb_k zTc1 (List.mem_of_getElem? (i := 2) rfl) rfl, zTb_k zTc3 (List.mem_of_getElem? (i := 175) rfl) rfl, by decide +kernel, by decide⟩
theorem zkX6_187 : zKC RX6 187 mX6_readSum 0 := ⟨zTb_k zTc3 (List.mem_of_getElem? (i := 176) rfl) rfl, zTb_k zTc1 (List.mem_of_getElem? (i := 2) rfl) rfl, zTb_k zTc3 (List.mem_of_getElem? (i := 179) rfl) rfl, by decide +kernel, by decide⟩
theorem zkX6_203 : zKC RX6 203 mX6_readValue 0 := ⟨zTb_k zTc3 (List.mem_of_getElem? (i := 180) rfl) rfl, zTb_k zTc1 (List.mem_of_getElem? (i := 2) rfl) rfl, zTb_k zTc3 (List.mem_of_getElem? (i := 183) rfl) rfl, by decide +kernel, by decide⟩
theorem zkX6_206 : zKC RX6 206 mX6_isValueWord 0 := ⟨zTb_k zTc3 (List.mem_of_getElem? (i := 184) rfl) rfl, zTb_k zTc1 (List.mem_of_getElem? (i := 2) rfl) rfl, zTb_k zTc3 (List.mem_of_getElem? (i := 187) rfl) rfl, by decide +kernel, by decide⟩
theorem zkX6_190 : zKC RX6 190 mX2_add 2 := ⟨zTb_k zTc3 (List.mem_of_getElem? (i := 188) rfl) rfl, zTb_k zTc1 (List.mem_of_getElem? (i := 6) rfl) rfl, zTb_k zTc3 (List.mem_of_getElem? (i := 191) rfl) rfl, by decide +kernel, by decide⟩
theorem zkX6_200 : zKC RX6 200 mX6_readSign 0 := ⟨zTb_k zTc3 (List.mem_of_getElem? (i := 193) rfl) rfl, zTb_k zTc1 (List.mem_of_getElem? (i := 2) rfl) rfl, zTb_k zTc3 (List.mem_of_getElem? (i := 196) rfl) rfl, by decide +kernel, by decide⟩
theorem zkX6_168 : zKC RX6 168 mX1_add 3 := ⟨zTb_k zTc3 (List.mem_of_getElem? (i := 197) rfl) rfl, zTb_k zTc1 (List.mem_of_getElem? (i := 5) rfl) rfl, zTb_k zTc3 (List.mem_of_getElem? (i := 200) rfl) rfl, by decide +kernel, by decide⟩
theorem zkX6_86 : zKC RX6 86 mX6_readNeed 1 := ⟨zTb_k zTc3 (List.mem_of_getElem? (i := 201) rfl) rfl, zTb_k zTc1 (List.mem_of_getElem? (i := 2) rfl) rfl, zTb_k zTc3 (List.mem_of_getElem? (i := 204) rfl) rfl, by decide +kernel, by decide⟩
theorem zkX6_96 : zKC RX6 96 mX6_readCousin 1 := ⟨zTb_k zTc3 (List.mem_of_getElem? (i := 205) rfl) rfl, zTb_k zTc1 (List.mem_of_getElem? (i := 2) rfl) rfl, zTb_k zTc3 (List.mem_of_getElem? (i := 208) rfl) rfl, by decide +kernel, by decide⟩
theorem zkX6_105 : zKC RX6 105 mX6_isAtEnd 0 := ⟨zTb_k zTc3 (List.mem_of_getElem? (i := 209) rfl) rfl, zTb_k zTc1 (List.mem_of_getElem? (i := 2) rfl) rfl, zTb_k zTc3 (List.mem_of_getElem? (i := 212) rfl) rfl, by decide +kernel, by decide⟩
theorem zkX11_101 : zKC RX11 101 mX0_take 1 := ⟨zTb_k zTc3 (List.mem_of_getElem? (i := 213) rfl) rfl, zTb_k zTc1 (List.mem_of_getElem? (i := 4) rfl) rfl, zTb_k zTc3 (List.mem_of_getElem? (i := 216) rfl) rfl, by decide +kernel, by decide⟩
theorem zkX0_79 : zKC RX0 79 mX1_take 1 := ⟨zTb_k zTc3 (List.mem_of_getElem? (i := 220) rfl) rfl, zTb_k zTc1 (List.mem_of_getElem? (i := 5) rfl) rfl, zTb_k zTc3 (List.mem_of_getElem? (i := 223) rfl) rfl, by decide +kernel, by decide⟩
theorem zkX0_83 : zKC RX0 83 mX2_take 1 := ⟨zTb_k zTc3 (List.mem_of_getElem? (i := 225) rfl) rfl, zTb_k zTc1 (List.mem_of_getElem? (i := 6) rfl) rfl, zTb_k zTc3 (List.mem_of_getElem? (i := 228) rfl) rfl, by decide +kernel, by decide⟩
theorem zkX11_115 : zKC RX11 115 mJ6_bitCount_0f7a4 1 := ⟨zTb_k zTc3 (List.mem_of_getElem? (i := 230) rfl) rfl, zTb_k zTc1 (List.mem_of_getElem? (i := 19) rfl) rfl, zTb_k zTc3 (List.mem_of_getElem? (i := 232) rfl) rfl, by decide +kernel, by decide⟩
theorem zkL_28 : zKC RL 28 mX11_rule 0 := ⟨zTb_k zTc3 (List.mem_of_getElem? (i := 237) rfl) rfl, zTb_k zTc1 (List.mem_of_getElem? (i := 1) rfl) rfl, zTb_k zTc4 (List.mem_of_getElem? (i := 0) rfl) rfl, by decide +kernel, by decide⟩
theorem zkX11_124 : zKC RX11 124 mX6_readRule 3 := ⟨zTb_k zTc4 (List.mem_of_getElem? (i := 1) rfl) rfl, zTb_k zTc1 (List.mem_of_getElem? (i := 2) rfl) rfl, zTb_k zTc4 (List.mem_of_getElem? (i := 4) rfl) rfl, by decide +kernel, by decide⟩
theorem zkX6_109 : zKC RX6 109 mX8_clear 0 := ⟨zTb_k zTc4 (List.mem_of_getElem? (i := 5) rfl) rfl, zTb_k zTc1 (List.mem_of_getElem? (i := 8) rfl) rfl, zTb_k zTc4 (List.mem_of_getElem? (i := 8) rfl) rfl, by decide +kernel, by decide⟩
theorem zkX8_32 : zKC RX8 32 mX2_clear 0 := ⟨zTb_k zTc4 (List.mem_of_getElem? (i := 9) rfl) rfl, zTb_k zTc1 (List.mem_of_getElem? (i := 6) rfl) rfl, zTb_k zTc1 (List.mem_of_getElem? (i := 140) rfl) rfl, by decide +kernel, by decide⟩
theorem zkX6_113 : zKC RX6 113 mX6_readLike 1 := ⟨zTb_k zTc4 (List.mem_of_getElem? (i := 10) rfl) rfl, zTb_k zTc1 (List.mem_of_getElem? (i := 2) rfl) rfl, zTb_k zTc4 (List.mem_of_getElem? (i := 13) rfl) rfl, by decide +kernel, by decide⟩
theorem zkX6_193 : zKC RX6 193 mX8_add 2 := ⟨zTb_k zTc4 (List.mem_of_getElem? (i := 14) rfl) rfl, zTb_k zTc1 (List.mem_of_getElem? (i := 8) rfl) rfl, zTb_k zTc4 (List.mem_of_getElem? (i := 17) rfl) rfl, by decide +kernel, by decide⟩
theorem zkL_32 : zKC RL 32 mX11_thing 2 := ⟨zTb_k zTc4 (List.mem_of_getElem? (i := 18) rfl) rfl, zTb_k zTc1 (List.mem_of_getElem? (i := 1) rfl) rfl, zTb_k zTc4 (List.mem_of_getElem? (i := 21) rfl) rfl, by decide +kernel, by decide⟩
theorem zkX11_128 : zKC RX11 128 mX0_has 1 := ⟨zTb_k zTc4 (List.mem_of_getElem? (i := 22) rfl) rfl, zTb_k zTc1 (List.mem_of_getElem? (i := 4) rfl) rfl, zTb_k zTc3 (List.mem_of_getElem? (i := 143) rfl) rfl, by decide +kernel, by decide⟩
theorem zkL_37 : zKC RL 37 mX11_count 1 := ⟨zTb_k zTc4 (List.mem_of_getElem? (i := 23) rfl) rfl, zTb_k zTc1 (List.mem_of_getElem? (i := 1) rfl) rfl, zTb_k zTc4 (List.mem_of_getElem? (i := 26) rfl) rfl, by decide +kernel, by decide⟩
theorem zkL_41 : zKC RL 41 mX11_owed 2 := ⟨zTb_k zTc4 (List.mem_of_getElem? (i := 27) rfl) rfl, zTb_k zTc1 (List.mem_of_getElem? (i := 1) rfl) rfl, zTb_k zTc4 (List.mem_of_getElem? (i := 30) rfl) rfl, by decide +kernel, by decide⟩
theorem zkX11_175 : zKC RX11 175 mX11_isTellable 1 := ⟨zTb_k zTc4 (List.mem_of_getElem? (i := 31) rfl) rfl, zTb_k zTc1 (List.mem_of_getElem? (i := 1) rfl) rfl, zTb_k zTc4 (List.mem_of_getElem? (i := 33) rfl) rfl, by decide +kernel, by decide⟩
theorem zkX11_178 : zKC RX11 178 mX0_firstOwed 2 := ⟨zTb_k zTc4 (List.mem_of_getElem? (i := 34) rfl) rfl, zTb_k zTc1 (List.mem_of_getElem? (i := 4) rfl) rfl, zTb_k zTc4 (List.mem_of_getElem? (i := 37) rfl) rfl, by decide +kernel, by decide⟩
theorem zkL_45 : zKC RL 45 mX11_earned 3 := ⟨zTb_k zTc4 (List.mem_of_getElem? (i := 38) rfl) rfl, zTb_k zTc1 (List.mem_of_getElem? (i := 1) rfl) rfl, zTb_k zTc4 (List.mem_of_getElem? (i := 41) rfl) rfl, by decide +kernel, by decide⟩
theorem zkX11_182 : zKC RX11 182 mX0_hasAll 1 := ⟨zTb_k zTc4 (List.mem_of_getElem? (i := 42) rfl) rfl, zTb_k zTc1 (List.mem_of_getElem? (i := 4) rfl) rfl, zTb_k zTc4 (List.mem_of_getElem? (i := 45) rfl) rfl, by decide +kernel, by decide⟩
theorem zkX11_185 : zKC RX11 185 mX0_earnings 4 := ⟨zTb_k zTc4 (List.mem_of_getElem? (i := 46) rfl) rfl, zTb_k zTc1 (List.mem_of_getElem? (i := 4) rfl) rfl, zTb_k zTc4 (List.mem_of_getElem? (i := 49) rfl) rfl, by decide +kernel, by decide⟩
theorem zkX0_90 : zKC RX0 90 mX9_place 3 := ⟨zTb_k zTc4 (List.mem_of_getElem? (i := 50) rfl) rfl, zTb_k zTc1 (List.mem_of_getElem? (i := 9) rfl) rfl, zTb_k zTc4 (List.mem_of_getElem? (i := 53) rfl) rfl, by decide +kernel, by decide⟩
theorem zkX9_18 : zKC RX9 18 mJ6_bitCount_0f7a4 1 := ⟨zTb_k zTc4 (List.mem_of_getElem? (i := 54) rfl) rfl, zTb_k zTc1 (List.mem_of_getElem? (i := 19) rfl) rfl, zTb_k zTc3 (List.mem_of_getElem? (i := 232) rfl) rfl, by decide +kernel, by decide⟩
theorem zkX0_96 : zKC RX0 96 mX1_holding 2 := ⟨zTb_k zTc4 (List.mem_of_getElem? (i := 55) rfl) rfl, zTb_k zTc1 (List.mem_of_getElem? (i := 5) rfl) rfl, zTb_k zTc4 (List.mem_of_getElem? (i := 58) rfl) rfl, by decide +kernel, by decide⟩
theorem zkX1_31 : zKC RX1 31 mX9_valueAt 2 := ⟨zTb_k zTc4 (List.mem_of_getElem? (i := 59) rfl) rfl, zTb_k zTc1 (List.mem_of_getElem? (i := 9) rfl) rfl, zTb_k zTc4 (List.mem_of_getElem? (i := 62) rfl) rfl, by decide +kernel, by decide⟩
theorem zkX9_24 : zKC RX9 24 mX2_kindAt 1 := ⟨zTb_k zTc4 (List.mem_of_getElem? (i := 63) rfl) rfl, zTb_k zTc1 (List.mem_of_getElem? (i := 6) rfl) rfl, zTb_k zTc4 (List.mem_of_getElem? (i := 66) rfl) rfl, by decide +kernel, by decide⟩
theorem zkX9_29 : zKC RX9 29 mX2_numberAt 1 := ⟨zTb_k zTc4 (List.mem_of_getElem? (i := 67) rfl) rfl, zTb_k zTc1 (List.mem_of_getElem? (i := 6) rfl) rfl, zTb_k zTc4 (List.mem_of_getElem? (i := 70) rfl) rfl, by decide +kernel, by decide⟩
theorem zkX9_32 : zKC RX9 32 mX9_wordValue 1 := ⟨zTb_k zTc4 (List.mem_of_getElem? (i := 71) rfl) rfl, zTb_k zTc1 (List.mem_of_getElem? (i := 9) rfl) rfl, zTb_k zTc4 (List.mem_of_getElem? (i := 74) rfl) rfl, by decide +kernel, by decide⟩
theorem zkX9_36 : zKC RX9 36 mX9_joined 3 := ⟨zTb_k zTc4 (List.mem_of_getElem? (i := 75) rfl) rfl, zTb_k zTc1 (List.mem_of_getElem? (i := 9) rfl) rfl, zTb_k zTc4 (List.mem_of_getElem? (i := 77) rfl) rfl, by decide +kernel, by decide⟩
theorem zkX0_100 : zKC RX0 100 mX1_together 2 := ⟨zTb_k zTc4 (List.mem_of_getElem? (i := 78) rfl) rfl, zTb_k zTc1 (List.mem_of_getElem? (i := 5) rfl) rfl, zTb_k zTc4 (List.mem_of_getElem? (i := 81) rfl) rfl, by decide +kernel, by decide⟩
theorem zkX11_189 : zKC RX11 189 mX0_needing 4 := ⟨zTb_k zTc4 (List.mem_of_getElem? (i := 82) rfl) rfl, zTb_k zTc1 (List.mem_of_getElem? (i := 4) rfl) rfl, zTb_k zTc4 (List.mem_of_getElem? (i := 85) rfl) rfl, by decide +kernel, by decide⟩
theorem zkL_50 : zKC RL 50 mX11_act 3 := ⟨zTb_k zTc4 (List.mem_of_getElem? (i := 86) rfl) rfl, zTb_k zTc1 (List.mem_of_getElem? (i := 1) rfl) rfl, zTb_k zTc4 (List.mem_of_getElem? (i := 89) rfl) rfl, by decide +kernel, by decide⟩
theorem zkX11_192 : zKC RX11 192 mX7_canTake 1 := ⟨zTb_k zTc4 (List.mem_of_getElem? (i := 90) rfl) rfl, zTb_k zTc1 (List.mem_of_getElem? (i := 7) rfl) rfl, zTb_k zTc4 (List.mem_of_getElem? (i := 93) rfl) rfl, by decide +kernel, by decide⟩
theorem zkX11_195 : zKC RX11 195 mX7_add 3 := ⟨zTb_k zTc4 (List.mem_of_getElem? (i := 94) rfl) rfl, zTb_k zTc1 (List.mem_of_getElem? (i := 7) rfl) rfl, zTb_k zTc4 (List.mem_of_getElem? (i := 97) rfl) rfl, by decide +kernel, by decide⟩
theorem zkL_54 : zKC RL 54 mX11_row 1 := ⟨zTb_k zTc4 (List.mem_of_getElem? (i := 98) rfl) rfl, zTb_k zTc1 (List.mem_of_getElem? (i := 1) rfl) rfl, zTb_k zTc4 (List.mem_of_getElem? (i := 101) rfl) rfl, by decide +kernel, by decide⟩
theorem zkL_59 : zKC RL 59 mX11_judged 1 := ⟨zTb_k zTc4 (List.mem_of_getElem? (i := 102) rfl) rfl, zTb_k zTc1 (List.mem_of_getElem? (i := 1) rfl) rfl, zTb_k zTc4 (List.mem_of_getElem? (i := 105) rfl) rfl, by decide +kernel, by decide⟩
theorem zkX11_201 : zKC RX11 201 mX4_liveByRow 2 := ⟨zTb_k zTc4 (List.mem_of_getElem? (i := 107) rfl) rfl, zTb_k zTc1 (List.mem_of_getElem? (i := 10) rfl) rfl, zTb_k zTc4 (List.mem_of_getElem? (i := 110) rfl) rfl, by decide +kernel, by decide⟩
theorem zkX4_75 : zKC RX4 75 mX4_begin 0 := ⟨zTb_k zTc4 (List.mem_of_getElem? (i := 111) rfl) rfl, zTb_k zTc1 (List.mem_of_getElem? (i := 10) rfl) rfl, zTb_k zTc4 (List.mem_of_getElem? (i := 114) rfl) rfl, by decide +kernel, by decide⟩
theorem zkX4_81 : zKC RX4 81 mX4_startWeek 1 := ⟨zTb_k zTc4 (List.mem_of_getElem? (i := 115) rfl) rfl, zTb_k zTc1 (List.mem_of_getElem? (i := 10) rfl) rfl, zTb_k zTc4 (List.mem_of_getElem? (i := 118) rfl) rfl, by decide +kernel, by decide⟩
theorem zkX4_110 : zKC RX4 110 mX0_lostBy 1 := ⟨zTb_k zTc4 (List.mem_of_getElem? (i := 119) rfl) rfl, zTb_k zTc1 (List.mem_of_getElem? (i := 4) rfl) rfl, zTb_k zTc4 (List.mem_of_getElem? (i := 122) rfl) rfl, by decide +kernel, by decide⟩
theorem zkX0_86 : zKC RX0 86 mX0_isLost 2 := ⟨zTb_k zTc4 (List.mem_of_getElem? (i := 123) rfl) rfl, zTb_k zTc1 (List.mem_of_getElem? (i := 4) rfl) rfl, zTb_k zTc4 (List.mem_of_getElem? (i := 126) rfl) rfl, by decide +kernel, by decide⟩
theorem zkX4_85 : zKC RX4 85 mX4_isWell 0 := ⟨zTb_k zTc4 (List.mem_of_getElem? (i := 127) rfl) rfl, zTb_k zTc1 (List.mem_of_getElem? (i := 10) rfl) rfl, zTb_k zTc4 (List.mem_of_getElem? (i := 130) rfl) rfl, by decide +kernel, by decide⟩
theorem zkX4_89 : zKC RX4 89 mX4_doActs 3 := ⟨zTb_k zTc4 (List.mem_of_getElem? (i := 131) rfl) rfl, zTb_k zTc1 (List.mem_of_getElem? (i := 10) rfl) rfl, zTb_k zTc4 (List.mem_of_getElem? (i := 134) rfl) rfl, by decide +kernel, by decide⟩
theorem zkX4_141 : zKC RX4 141 mX4_doAct 3 := ⟨zTb_k zTc4 (List.mem_of_getElem? (i := 135) rfl) rfl, zTb_k zTc1 (List.mem_of_getElem? (i := 10) rfl) rfl, zTb_k zTc4 (List.mem_of_getElem? (i := 138) rfl) rfl, by decide +kernel, by decide⟩
theorem zkX4_106 : zKC RX4 106 mX4_fetchOne 2 := ⟨zTb_k zTc4 (List.mem_of_getElem? (i := 139) rfl) rfl, zTb_k zTc1 (List.mem_of_getElem? (i := 10) rfl) rfl, zTb_k zTc4 (List.mem_of_getElem? (i := 142) rfl) rfl, by decide +kernel, by decide⟩
theorem zkX4_158 : zKC RX4 158 mX4_isIn 1 := ⟨zTb_k zTc4 (List.mem_of_getElem? (i := 143) rfl) rfl, zTb_k zTc1 (List.mem_of_getElem? (i := 10) rfl) rfl, zTb_k zTc4 (List.mem_of_getElem? (i := 146) rfl) rfl, by decide +kernel, by decide⟩
theorem zkX4_120 : zKC RX4 120 mX4_thingsIn 0 := ⟨zTb_k zTc4 (List.mem_of_getElem? (i := 147) rfl) rfl, zTb_k zTc1 (List.mem_of_getElem? (i := 10) rfl) rfl, zTb_k zTc4 (List.mem_of_getElem? (i := 150) rfl) rfl, by decide +kernel, by decide⟩
theorem zkX4_161 : zKC RX4 161 mX4_owedNow 2 := ⟨zTb_k zTc4 (List.mem_of_getElem? (i := 151) rfl) rfl, zTb_k zTc1 (List.mem_of_getElem? (i := 10) rfl) rfl, zTb_k zTc4 (List.mem_of_getElem? (i := 154) rfl) rfl, by decide +kernel, by decide⟩
theorem zkX4_145 : zKC RX4 145 mX4_putOne 2 := ⟨zTb_k zTc4 (List.mem_of_getElem? (i := 155) rfl) rfl, zTb_k zTc1 (List.mem_of_getElem? (i := 10) rfl) rfl, zTb_k zTc4 (List.mem_of_getElem? (i := 158) rfl) rfl, by decide +kernel, by decide⟩
theorem zkX4_148 : zKC RX4 148 mX4_sellOne 1 := ⟨zTb_k zTc4 (List.mem_of_getElem? (i := 159) rfl) rfl, zTb_k zTc1 (List.mem_of_getElem? (i := 10) rfl) rfl, zTb_k zTc4 (List.mem_of_getElem? (i := 162) rfl) rfl, by decide +kernel, by decide⟩
theorem zkX4_152 : zKC RX4 152 mX4_halveOne 2 := ⟨zTb_k zTc4 (List.mem_of_getElem? (i := 163) rfl) rfl, zTb_k zTc1 (List.mem_of_getElem? (i := 10) rfl) rfl, zTb_k zTc4 (List.mem_of_getElem? (i := 166) rfl) rfl, by decide +kernel, by decide⟩
theorem zkX4_155 : zKC RX4 155 mX4_borrowOnce 1 := ⟨zTb_k zTc4 (List.mem_of_getElem? (i := 167) rfl) rfl, zTb_k zTc1 (List.mem_of_getElem? (i := 10) rfl) rfl, zTb_k zTc4 (List.mem_of_getElem? (i := 170) rfl) rfl, by decide +kernel, by decide⟩
theorem zkX4_171 : zKC RX4 171 mX0_cousinLendsIn 1 := ⟨zTb_k zTc4 (List.mem_of_getElem? (i := 171) rfl) rfl, zTb_k zTc1 (List.mem_of_getElem? (i := 4) rfl) rfl, zTb_k zTc4 (List.mem_of_getElem? (i := 174) rfl) rfl, by decide +kernel, by decide⟩
theorem zkX4_93 : zKC RX4 93 mX4_endWeek 2 := ⟨zTb_k zTc4 (List.mem_of_getElem? (i := 175) rfl) rfl, zTb_k zTc1 (List.mem_of_getElem? (i := 10) rfl) rfl, zTb_k zTc4 (List.mem_of_getElem? (i := 178) rfl) rfl, by decide +kernel, by decide⟩
theorem zkX4_124 : zKC RX4 124 mX0_earnings 4 := ⟨zTb_k zTc4 (List.mem_of_getElem? (i := 179) rfl) rfl, zTb_k zTc1 (List.mem_of_getElem? (i := 4) rfl) rfl, zTb_k zTc4 (List.mem_of_getElem? (i := 49) rfl) rfl, by decide +kernel, by decide⟩
theorem zkX4_128 : zKC RX4 128 mX0_needing 4 := ⟨zTb_k zTc4 (List.mem_of_getElem? (i := 180) rfl) rfl, zTb_k zTc1 (List.mem_of_getElem? (i := 4) rfl) rfl, zTb_k zTc4 (List.mem_of_getElem? (i := 85) rfl) rfl, by decide +kernel, by decide⟩
theorem zkL_63 : zKC RL 63 mX11_then 2 := ⟨zTb_k zTc4 (List.mem_of_getElem? (i := 181) rfl) rfl, zTb_k zTc1 (List.mem_of_getElem? (i := 1) rfl) rfl, zTb_k zTc4 (List.mem_of_getElem? (i := 184) rfl) rfl, by decide +kernel, by decide⟩
theorem zkL_67 : zKC RL 67 mX11_soon 0 := ⟨zTb_k zTc4 (List.mem_of_getElem? (i := 185) rfl) rfl, zTb_k zTc1 (List.mem_of_getElem? (i := 1) rfl) rfl, zTb_k zTc4 (List.mem_of_getElem? (i := 188) rfl) rfl, by decide +kernel, by decide⟩
theorem zkX11_230 : zKC RX11 230 mX11_readyPlans 0 := ⟨zTb_k zTc4 (List.mem_of_getElem? (i := 189) rfl) rfl, zTb_k zTc1 (List.mem_of_getElem? (i := 1) rfl) rfl, zTb_k zTc4 (List.mem_of_getElem? (i := 192) rfl) rfl, by decide +kernel, by decide⟩
theorem zkX11_227 : zKC RX11 227 mX5_prepare 0 := ⟨zTb_k zTc4 (List.mem_of_getElem? (i := 193) rfl) rfl, zTb_k zTc1 (List.mem_of_getElem? (i := 11) rfl) rfl, zTb_k zTc4 (List.mem_of_getElem? (i := 196) rfl) rfl, by decide +kernel, by decide⟩
theorem zkX5_48 : zKC RX5 48 mX5_fillGains 2 := ⟨zTb_k zTc4 (List.mem_of_getElem? (i := 197) rfl) rfl, zTb_k zTc1 (List.mem_of_getElem? (i := 11) rfl) rfl, zTb_k zTc4 (List.mem_of_getElem? (i := 200) rfl) rfl, by decide +kernel, by decide⟩
theorem zkX5_114 : zKC RX5 114 mX5_fillHolding 1 := ⟨zTb_k zTc4 (List.mem_of_getElem? (i := 201) rfl) rfl, zTb_k zTc1 (List.mem_of_getElem? (i := 11) rfl) rfl, zTb_k zTc4 (List.mem_of_getElem? (i := 204) rfl) rfl, by decide +kernel, by decide⟩
theorem zkX5_154 : zKC RX5 154 mX1_holding 2 := ⟨zTb_k zTc4 (List.mem_of_getElem? (i := 205) rfl) rfl, zTb_k zTc1 (List.mem_of_getElem? (i := 5) rfl) rfl, zTb_k zTc4 (List.mem_of_getElem? (i := 58) rfl) rfl, by decide +kernel, by decide⟩
theorem zkX5_118 : zKC RX5 118 mX0_lostBy 1 := ⟨zTb_k zTc4 (List.mem_of_getElem? (i := 206) rfl) rfl, zTb_k zTc1 (List.mem_of_getElem? (i := 4) rfl) rfl, zTb_k zTc4 (List.mem_of_getElem? (i := 122) rfl) rfl, by decide +kernel, by decide⟩
theorem zkX5_122 : zKC RX5 122 mJ6_bitCount_0f7a4 1 := ⟨zTb_k zTc4 (List.mem_of_getElem? (i := 207) rfl) rfl, zTb_k zTc1 (List.mem_of_getElem? (i := 19) rfl) rfl, zTb_k zTc3 (List.mem_of_getElem? (i := 232) rfl) rfl, by decide +kernel, by decide⟩
theorem zkX5_133 : zKC RX5 133 mX0_hasAll 1 := ⟨zTb_k zTc4 (List.mem_of_getElem? (i := 211) rfl) rfl, zTb_k zTc1 (List.mem_of_getElem? (i := 4) rfl) rfl, zTb_k zTc4 (List.mem_of_getElem? (i := 45) rfl) rfl, by decide +kernel, by decide⟩
theorem zkX5_140 : zKC RX5 140 mX1_together 2 := ⟨zTb_k zTc4 (List.mem_of_getElem? (i := 212) rfl) rfl, zTb_k zTc1 (List.mem_of_getElem? (i := 5) rfl) rfl, zTb_k zTc4 (List.mem_of_getElem? (i := 81) rfl) rfl, by decide +kernel, by decide⟩
theorem zkX5_58 : zKC RX5 58 mX2_asks 1 := ⟨zTb_k zTc4 (List.mem_of_getElem? (i := 213) rfl) rfl, zTb_k zTc1 (List.mem_of_getElem? (i := 6) rfl) rfl, zTb_k zTc4 (List.mem_of_getElem? (i := 216) rfl) rfl, by decide +kernel, by decide⟩
theorem zkX5_68 : zKC RX5 68 mX5_start 3 := ⟨zTb_k zTc4 (List.mem_of_getElem? (i := 217) rfl) rfl, zTb_k zTc1 (List.mem_of_getElem? (i := 11) rfl) rfl, zTb_k zTc4 (List.mem_of_getElem? (i := 219) rfl) rfl, by decide +kernel, by decide⟩
theorem zkX5_81 : zKC RX5 81 mX5_pass 4 := ⟨zTb_k zTc4 (List.mem_of_getElem? (i := 220) rfl) rfl, zTb_k zTc1 (List.mem_of_getElem? (i := 11) rfl) rfl, zTb_k zTc4 (List.mem_of_getElem? (i := 223) rfl) rfl, by decide +kernel, by decide⟩
theorem zkX5_158 : zKC RX5 158 mX0_firstOwed 2 := ⟨zTb_k zTc4 (List.mem_of_getElem? (i := 224) rfl) rfl, zTb_k zTc1 (List.mem_of_getElem? (i := 4) rfl) rfl, zTb_k zTc4 (List.mem_of_getElem? (i := 37) rfl) rfl, by decide +kernel, by decide⟩
theorem zkX5_161 : zKC RX5 161 mX5_fetchAnywhere 3 := ⟨zTb_k zTc4 (List.mem_of_getElem? (i := 225) rfl) rfl, zTb_k zTc1 (List.mem_of_getElem? (i := 11) rfl) rfl, zTb_k zTc4 (List.mem_of_getElem? (i := 228) rfl) rfl, by decide +kernel, by decide⟩
theorem zkX5_91 : zKC RX5 91 mX5_countStates 0 := ⟨zTb_k zTc4 (List.mem_of_getElem? (i := 230) rfl) rfl, zTb_k zTc1 (List.mem_of_getElem? (i := 11) rfl) rfl, zTb_k zTc4 (List.mem_of_getElem? (i := 233) rfl) rfl, by decide +kernel, by decide⟩
theorem zkX5_94 : zKC RX5 94 mX5_mostIn 1 := ⟨zTb_k zTc4 (List.mem_of_getElem? (i := 234) rfl) rfl, zTb_k zTc1 (List.mem_of_getElem? (i := 11) rfl) rfl, zTb_k zTc4 (List.mem_of_getElem? (i := 236) rfl) rfl, by decide +kernel, by decide⟩
theorem zkX5_101 : zKC RX5 101 mX5_lastSet 0 := ⟨zTb_k zTc4 (List.mem_of_getElem? (i := 237) rfl) rfl, zTb_k zTc1 (List.mem_of_getElem? (i := 11) rfl) rfl, zTb_k zTc5 (List.mem_of_getElem? (i := 0) rfl) rfl, by decide +kernel, by decide⟩
theorem zkX5_108 : zKC RX5 108 mX5_tracePlan 0 := ⟨zTb_k zTc5 (List.mem_of_getElem? (i := 1) rfl) rfl, zTb_k zTc1 (List.mem_of_getElem? (i := 11) rfl) rfl, zTb_k zTc5 (List.mem_of_getElem? (i := 4) rfl) rfl, by decide +kernel, by decide⟩
theorem zkX5_167 : zKC RX5 167 mX5_setAhead 2 := ⟨zTb_k zTc5 (List.mem_of_getElem? (i := 8) rfl) rfl, zTb_k zTc1 (List.mem_of_getElem? (i := 11) rfl) rfl, zTb_k zTc5 (List.mem_of_getElem? (i := 11) rfl) rfl, by decide +kernel, by decide⟩
theorem zkX5_170 : zKC RX5 170 mX5_coinAt 2 := ⟨zTb_k zTc5 (List.mem_of_getElem? (i := 12) rfl) rfl, zTb_k zTc1 (List.mem_of_getElem? (i := 11) rfl) rfl, zTb_k zTc5 (List.mem_of_getElem? (i := 15) rfl) rfl, by decide +kernel, by decide⟩
theorem zkX5_173 : zKC RX5 173 mX5_costOf 2 := ⟨zTb_k zTc5 (List.mem_of_getElem? (i := 16) rfl) rfl, zTb_k zTc1 (List.mem_of_getElem? (i := 11) rfl) rfl, zTb_k zTc5 (List.mem_of_getElem? (i := 19) rfl) rfl, by decide +kernel, by decide⟩
theorem zkX11_234 : zKC RX11 234 mX5_firstAllHome 0 := ⟨zTb_k zTc5 (List.mem_of_getElem? (i := 20) rfl) rfl, zTb_k zTc1 (List.mem_of_getElem? (i := 11) rfl) rfl, zTb_k zTc5 (List.mem_of_getElem? (i := 23) rfl) rfl, by decide +kernel, by decide⟩
theorem zkL_71 : zKC RL 71 mX11_best 1 := ⟨zTb_k zTc5 (List.mem_of_getElem? (i := 24) rfl) rfl, zTb_k zTc1 (List.mem_of_getElem? (i := 1) rfl) rfl, zTb_k zTc5 (List.mem_of_getElem? (i := 27) rfl) rfl, by decide +kernel, by decide⟩
theorem zkX11_250 : zKC RX11 250 mX5_richest 0 := ⟨zTb_k zTc5 (List.mem_of_getElem? (i := 28) rfl) rfl, zTb_k zTc1 (List.mem_of_getElem? (i := 11) rfl) rfl, zTb_k zTc5 (List.mem_of_getElem? (i := 31) rfl) rfl, by decide +kernel, by decide⟩
theorem zkX5_176 : zKC RX5 176 mX5_worthOf 1 := ⟨zTb_k zTc5 (List.mem_of_getElem? (i := 32) rfl) rfl, zTb_k zTc1 (List.mem_of_getElem? (i := 11) rfl) rfl, zTb_k zTc5 (List.mem_of_getElem? (i := 35) rfl) rfl, by decide +kernel, by decide⟩
theorem zkL_75 : zKC RL 75 mX11_fetched 1 := ⟨zTb_k zTc5 (List.mem_of_getElem? (i := 36) rfl) rfl, zTb_k zTc1 (List.mem_of_getElem? (i := 1) rfl) rfl, zTb_k zTc5 (List.mem_of_getElem? (i := 39) rfl) rfl, by decide +kernel, by decide⟩
theorem zkL_79 : zKC RL 79 mX11_hangs 1 := ⟨zTb_k zTc5 (List.mem_of_getElem? (i := 40) rfl) rfl, zTb_k zTc1 (List.mem_of_getElem? (i := 1) rfl) rfl, zTb_k zTc5 (List.mem_of_getElem? (i := 43) rfl) rfl, by decide +kernel, by decide⟩
theorem zkX11_256 : zKC RX11 256 mX5_hanging 1 := ⟨zTb_k zTc5 (List.mem_of_getElem? (i := 44) rfl) rfl, zTb_k zTc1 (List.mem_of_getElem? (i := 11) rfl) rfl, zTb_k zTc5 (List.mem_of_getElem? (i := 47) rfl) rfl, by decide +kernel, by decide⟩
theorem zkX5_186 : zKC RX5 186 mX5_gainsWithout 2 := ⟨zTb_k zTc5 (List.mem_of_getElem? (i := 48) rfl) rfl, zTb_k zTc1 (List.mem_of_getElem? (i := 11) rfl) rfl, zTb_k zTc5 (List.mem_of_getElem? (i := 51) rfl) rfl, by decide +kernel, by decide⟩
theorem zkX5_182 : zKC RX5 182 mX0_isLost 2 := ⟨zTb_k zTc5 (List.mem_of_getElem? (i := 52) rfl) rfl, zTb_k zTc1 (List.mem_of_getElem? (i := 4) rfl) rfl, zTb_k zTc4 (List.mem_of_getElem? (i := 126) rfl) rfl, by decide +kernel, by decide⟩
theorem zkL_83 : zKC RL 83 mX11_key 0 := ⟨zTb_k zTc5 (List.mem_of_getElem? (i := 53) rfl) rfl, zTb_k zTc1 (List.mem_of_getElem? (i := 1) rfl) rfl, zTb_k zTc5 (List.mem_of_getElem? (i := 56) rfl) rfl, by decide +kernel, by decide⟩
theorem zkX11_259 : zKC RX11 259 mX5_keyThing 0 := ⟨zTb_k zTc5 (List.mem_of_getElem? (i := 57) rfl) rfl, zTb_k zTc1 (List.mem_of_getElem? (i := 11) rfl) rfl, zTb_k zTc5 (List.mem_of_getElem? (i := 60) rfl) rfl, by decide +kernel, by decide⟩
theorem zkX5_190 : zKC RX5 190 mX0_has 1 := ⟨zTb_k zTc5 (List.mem_of_getElem? (i := 61) rfl) rfl, zTb_k zTc1 (List.mem_of_getElem? (i := 4) rfl) rfl, zTb_k zTc3 (List.mem_of_getElem? (i := 143) rfl) rfl, by decide +kernel, by decide⟩
theorem zkX5_193 : zKC RX5 193 mX5_hanging 1 := ⟨zTb_k zTc5 (List.mem_of_getElem? (i := 62) rfl) rfl, zTb_k zTc1 (List.mem_of_getElem? (i := 11) rfl) rfl, zTb_k zTc5 (List.mem_of_getElem? (i := 47) rfl) rfl, by decide +kernel, by decide⟩
theorem zkL_87 : zKC RL 87 mX11_wise 1 := ⟨zTb_k zTc5 (List.mem_of_getElem? (i := 63) rfl) rfl, zTb_k zTc1 (List.mem_of_getElem? (i := 1) rfl) rfl, zTb_k zTc5 (List.mem_of_getElem? (i := 66) rfl) rfl, by decide +kernel, by decide⟩
theorem zkX11_263 : zKC RX11 263 mX5_bestNeverPut 1 := ⟨zTb_k zTc5 (List.mem_of_getElem? (i := 68) rfl) rfl, zTb_k zTc1 (List.mem_of_getElem? (i := 11) rfl) rfl, zTb_k zTc5 (List.mem_of_getElem? (i := 71) rfl) rfl, by decide +kernel, by decide⟩
theorem zkL_91 : zKC RL 91 mX11_borrowed 1 := ⟨zTb_k zTc5 (List.mem_of_getElem? (i := 73) rfl) rfl, zTb_k zTc1 (List.mem_of_getElem? (i := 1) rfl) rfl, zTb_k zTc5 (List.mem_of_getElem? (i := 76) rfl) rfl, by decide +kernel, by decide⟩
theorem zkX11_267 : zKC RX11 267 mX5_bestBorrowing 1 := ⟨zTb_k zTc5 (List.mem_of_getElem? (i := 77) rfl) rfl, zTb_k zTc1 (List.mem_of_getElem? (i := 11) rfl) rfl, zTb_k zTc5 (List.mem_of_getElem? (i := 80) rfl) rfl, by decide +kernel, by decide⟩
theorem zkX5_199 : zKC RX5 199 mX0_cousinLendsIn 1 := ⟨zTb_k zTc5 (List.mem_of_getElem? (i := 81) rfl) rfl, zTb_k zTc1 (List.mem_of_getElem? (i := 4) rfl) rfl, zTb_k zTc4 (List.mem_of_getElem? (i := 174) rfl) rfl, by decide +kernel, by decide⟩
theorem zkX5_205 : zKC RX5 205 mX5_shift 2 := ⟨zTb_k zTc5 (List.mem_of_getElem? (i := 82) rfl) rfl, zTb_k zTc1 (List.mem_of_getElem? (i := 11) rfl) rfl, zTb_k zTc5 (List.mem_of_getElem? (i := 84) rfl) rfl, by decide +kernel, by decide⟩
theorem zkX11_270 : zKC RX11 270 mX11_orLacking 1 := ⟨zTb_k zTc5 (List.mem_of_getElem? (i := 85) rfl) rfl, zTb_k zTc1 (List.mem_of_getElem? (i := 1) rfl) rfl, zTb_k zTc5 (List.mem_of_getElem? (i := 87) rfl) rfl, by decide +kernel, by decide⟩
theorem zkL_95 : zKC RL 95 mX11_when 0 := ⟨zTb_k zTc5 (List.mem_of_getElem? (i := 88) rfl) rfl, zTb_k zTc1 (List.mem_of_getElem? (i := 1) rfl) rfl, zTb_k zTc5 (List.mem_of_getElem? (i := 91) rfl) rfl, by decide +kernel, by decide⟩
theorem zkX11_273 : zKC RX11 273 mX5_borrowingWeek 0 := ⟨zTb_k zTc5 (List.mem_of_getElem? (i := 92) rfl) rfl, zTb_k zTc1 (List.mem_of_getElem? (i := 11) rfl) rfl, zTb_k zTc5 (List.mem_of_getElem? (i := 95) rfl) rfl, by decide +kernel, by decide⟩
theorem zkX5_211 : zKC RX5 211 mX5_bestBorrowing 1 := ⟨zTb_k zTc5 (List.mem_of_getElem? (i := 96) rfl) rfl, zTb_k zTc1 (List.mem_of_getElem? (i := 11) rfl) rfl, zTb_k zTc5 (List.mem_of_getElem? (i := 80) rfl) rfl, by decide +kernel, by decide⟩
theorem zkL_99 : zKC RL 99 mX11_sold 2 := ⟨zTb_k zTc5 (List.mem_of_getElem? (i := 97) rfl) rfl, zTb_k zTc1 (List.mem_of_getElem? (i := 1) rfl) rfl, zTb_k zTc5 (List.mem_of_getElem? (i := 100) rfl) rfl, by decide +kernel, by decide⟩
theorem zkX11_276 : zKC RX11 276 mX5_bestSelling 2 := ⟨zTb_k zTc5 (List.mem_of_getElem? (i := 101) rfl) rfl, zTb_k zTc1 (List.mem_of_getElem? (i := 11) rfl) rfl, zTb_k zTc5 (List.mem_of_getElem? (i := 104) rfl) rfl, by decide +kernel, by decide⟩
theorem zkX5_214 : zKC RX5 214 mX5_bestSellingFromLine 2 := ⟨zTb_k zTc5 (List.mem_of_getElem? (i := 105) rfl) rfl, zTb_k zTc1 (List.mem_of_getElem? (i := 11) rfl) rfl, zTb_k zTc5 (List.mem_of_getElem? (i := 108) rfl) rfl, by decide +kernel, by decide⟩
theorem zkL_103 : zKC RL 103 mX11_selling 1 := ⟨zTb_k zTc5 (List.mem_of_getElem? (i := 109) rfl) rfl, zTb_k zTc1 (List.mem_of_getElem? (i := 1) rfl) rfl, zTb_k zTc5 (List.mem_of_getElem? (i := 112) rfl) rfl, by decide +kernel, by decide⟩
theorem zkX11_279 : zKC RX11 279 mX5_sellingWeek 1 := ⟨zTb_k zTc5 (List.mem_of_getElem? (i := 113) rfl) rfl, zTb_k zTc1 (List.mem_of_getElem? (i := 11) rfl) rfl, zTb_k zTc5 (List.mem_of_getElem? (i := 116) rfl) rfl, by decide +kernel, by decide⟩
theorem zkL_107 : zKC RL 107 mX11_likes 5 := ⟨zTb_k zTc5 (List.mem_of_getElem? (i := 117) rfl) rfl, zTb_k zTc1 (List.mem_of_getElem? (i := 1) rfl) rfl, zTb_k zTc5 (List.mem_of_getElem? (i := 120) rfl) rfl, by decide +kernel, by decide⟩
theorem zkX11_282 : zKC RX11 282 mX11_isRule 1 := ⟨zTb_k zTc5 (List.mem_of_getElem? (i := 121) rfl) rfl, zTb_k zTc1 (List.mem_of_getElem? (i := 1) rfl) rfl, zTb_k zTc5 (List.mem_of_getElem? (i := 124) rfl) rfl, by decide +kernel, by decide⟩
theorem zkX11_286 : zKC RX11 286 mX4_begin 0 := ⟨zTb_k zTc5 (List.mem_of_getElem? (i := 126) rfl) rfl, zTb_k zTc1 (List.mem_of_getElem? (i := 10) rfl) rfl, zTb_k zTc4 (List.mem_of_getElem? (i := 114) rfl) rfl, by decide +kernel, by decide⟩
theorem zkX11_289 : zKC RX11 289 mX4_liking 3 := ⟨zTb_k zTc5 (List.mem_of_getElem? (i := 127) rfl) rfl, zTb_k zTc1 (List.mem_of_getElem? (i := 10) rfl) rfl, zTb_k zTc5 (List.mem_of_getElem? (i := 130) rfl) rfl, by decide +kernel, by decide⟩
theorem zkX4_183 : zKC RX4 183 mX9_place 3 := ⟨zTb_k zTc5 (List.mem_of_getElem? (i := 131) rfl) rfl, zTb_k zTc1 (List.mem_of_getElem? (i := 9) rfl) rfl, zTb_k zTc4 (List.mem_of_getElem? (i := 53) rfl) rfl, by decide +kernel, by decide⟩
theorem zkX4_203 : zKC RX4 203 mX2_asks 1 := ⟨zTb_k zTc5 (List.mem_of_getElem? (i := 133) rfl) rfl, zTb_k zTc1 (List.mem_of_getElem? (i := 6) rfl) rfl, zTb_k zTc4 (List.mem_of_getElem? (i := 216) rfl) rfl, by decide +kernel, by decide⟩
theorem zkX4_208 : zKC RX4 208 mX8_valueIn 1 := ⟨zTb_k zTc5 (List.mem_of_getElem? (i := 134) rfl) rfl, zTb_k zTc1 (List.mem_of_getElem? (i := 8) rfl) rfl, zTb_k zTc5 (List.mem_of_getElem? (i := 137) rfl) rfl, by decide +kernel, by decide⟩
theorem zkX8_35 : zKC RX8 35 mX9_valueAt 2 := ⟨zTb_k zTc5 (List.mem_of_getElem? (i := 138) rfl) rfl, zTb_k zTc1 (List.mem_of_getElem? (i := 9) rfl) rfl, zTb_k zTc4 (List.mem_of_getElem? (i := 62) rfl) rfl, by decide +kernel, by decide⟩
theorem zkL_112 : zKC RL 112 mX11_ruled 2 := ⟨zTb_k zTc5 (List.mem_of_getElem? (i := 139) rfl) rfl, zTb_k zTc1 (List.mem_of_getElem? (i := 1) rfl) rfl, zTb_k zTc5 (List.mem_of_getElem? (i := 142) rfl) rfl, by decide +kernel, by decide⟩
theorem zkX11_293 : zKC RX11 293 mX4_liveByRule 2 := ⟨zTb_k zTc5 (List.mem_of_getElem? (i := 143) rfl) rfl, zTb_k zTc1 (List.mem_of_getElem? (i := 10) rfl) rfl, zTb_k zTc5 (List.mem_of_getElem? (i := 146) rfl) rfl, by decide +kernel, by decide⟩
theorem zkX4_102 : zKC RX4 102 mX4_likedMost 2 := ⟨zTb_k zTc5 (List.mem_of_getElem? (i := 147) rfl) rfl, zTb_k zTc1 (List.mem_of_getElem? (i := 10) rfl) rfl, zTb_k zTc5 (List.mem_of_getElem? (i := 150) rfl) rfl, by decide +kernel, by decide⟩
theorem zkX4_179 : zKC RX4 179 mX4_liking 3 := ⟨zTb_k zTc5 (List.mem_of_getElem? (i := 151) rfl) rfl, zTb_k zTc1 (List.mem_of_getElem? (i := 10) rfl) rfl, zTb_k zTc5 (List.mem_of_getElem? (i := 130) rfl) rfl, by decide +kernel, by decide⟩
theorem zkL_116 : zKC RL 116 mX11_finest 0 := ⟨zTb_k zTc5 (List.mem_of_getElem? (i := 152) rfl) rfl, zTb_k zTc1 (List.mem_of_getElem? (i := 1) rfl) rfl, zTb_k zTc5 (List.mem_of_getElem? (i := 155) rfl) rfl, by decide +kernel, by decide⟩
theorem zkL_120 : zKC RL 120 mX11_parts 2 := ⟨zTb_k zTc5 (List.mem_of_getElem? (i := 156) rfl) rfl, zTb_k zTc1 (List.mem_of_getElem? (i := 1) rfl) rfl, zTb_k zTc5 (List.mem_of_getElem? (i := 159) rfl) rfl, by decide +kernel, by decide⟩
theorem zkL_124 : zKC RL 124 mX11_holds 2 := ⟨zTb_k zTc5 (List.mem_of_getElem? (i := 161) rfl) rfl, zTb_k zTc1 (List.mem_of_getElem? (i := 1) rfl) rfl, zTb_k zTc5 (List.mem_of_getElem? (i := 164) rfl) rfl, by decide +kernel, by decide⟩
theorem zkX11_304 : zKC RX11 304 mX11_isDrawable 2 := ⟨zTb_k zTc5 (List.mem_of_getElem? (i := 165) rfl) rfl, zTb_k zTc1 (List.mem_of_getElem? (i := 1) rfl) rfl, zTb_k zTc5 (List.mem_of_getElem? (i := 167) rfl) rfl, by decide +kernel, by decide⟩
theorem zkX11_312 : zKC RX11 312 mX3_work 2 := ⟨zTb_k zTc5 (List.mem_of_getElem? (i := 168) rfl) rfl, zTb_k zTc1 (List.mem_of_getElem? (i := 12) rfl) rfl, zTb_k zTc5 (List.mem_of_getElem? (i := 171) rfl) rfl, by decide +kernel, by decide⟩
theorem zkX11_316 : zKC RX11 316 mX4_isWell 0 := ⟨zTb_k zTc5 (List.mem_of_getElem? (i := 177) rfl) rfl, zTb_k zTc1 (List.mem_of_getElem? (i := 10) rfl) rfl, zTb_k zTc4 (List.mem_of_getElem? (i := 130) rfl) rfl, by decide +kernel, by decide⟩
theorem zkL_128 : zKC RL 128 mX11_goes 3 := ⟨zTb_k zTc5 (List.mem_of_getElem? (i := 178) rfl) rfl, zTb_k zTc1 (List.mem_of_getElem? (i := 1) rfl) rfl, zTb_k zTc5 (List.mem_of_getElem? (i := 181) rfl) rfl, by decide +kernel, by decide⟩
theorem zkL_132 : zKC RL 132 mX11_surely 0 := ⟨zTb_k zTc5 (List.mem_of_getElem? (i := 182) rfl) rfl, zTb_k zTc1 (List.mem_of_getElem? (i := 1) rfl) rfl, zTb_k zTc5 (List.mem_of_getElem? (i := 185) rfl) rfl, by decide +kernel, by decide⟩
theorem zkX11_320 : zKC RX11 320 mX11_chanceOf 1 := ⟨zTb_k zTc5 (List.mem_of_getElem? (i := 186) rfl) rfl, zTb_k zTc1 (List.mem_of_getElem? (i := 1) rfl) rfl, zTb_k zTc5 (List.mem_of_getElem? (i := 189) rfl) rfl, by decide +kernel, by decide⟩
theorem zkL_136 : zKC RL 136 mX11_most 2 := ⟨zTb_k zTc5 (List.mem_of_getElem? (i := 192) rfl) rfl, zTb_k zTc1 (List.mem_of_getElem? (i := 1) rfl) rfl, zTb_k zTc5 (List.mem_of_getElem? (i := 195) rfl) rfl, by decide +kernel, by decide⟩
theorem zkL_140 : zKC RL 140 mX11_needed 2 := ⟨zTb_k zTc5 (List.mem_of_getElem? (i := 196) rfl) rfl, zTb_k zTc1 (List.mem_of_getElem? (i := 1) rfl) rfl, zTb_k zTc5 (List.mem_of_getElem? (i := 199) rfl) rfl, by decide +kernel, by decide⟩
theorem zkX11_327 : zKC RX11 327 mX0_lostBy 1 := ⟨zTb_k zTc5 (List.mem_of_getElem? (i := 200) rfl) rfl, zTb_k zTc1 (List.mem_of_getElem? (i := 4) rfl) rfl, zTb_k zTc4 (List.mem_of_getElem? (i := 122) rfl) rfl, by decide +kernel, by decide⟩
theorem zkL_144 : zKC RL 144 mX11_pays 3 := ⟨zTb_k zTc5 (List.mem_of_getElem? (i := 201) rfl) rfl, zTb_k zTc1 (List.mem_of_getElem? (i := 1) rfl) rfl, zTb_k zTc5 (List.mem_of_getElem? (i := 204) rfl) rfl, by decide +kernel, by decide⟩
theorem zkL_148 : zKC RL 148 mX11_image 1 := ⟨zTb_k zTc5 (List.mem_of_getElem? (i := 205) rfl) rfl, zTb_k zTc1 (List.mem_of_getElem? (i := 1) rfl) rfl, zTb_k zTc5 (List.mem_of_getElem? (i := 208) rfl) rfl, by decide +kernel, by decide⟩
theorem zkX11_330 : zKC RX11 330 mX7_take 1 := ⟨zTb_k zTc5 (List.mem_of_getElem? (i := 209) rfl) rfl, zTb_k zTc1 (List.mem_of_getElem? (i := 7) rfl) rfl, zTb_k zTc5 (List.mem_of_getElem? (i := 212) rfl) rfl, by decide +kernel, by decide⟩
theorem zkL_152 : zKC RL 152 mX11_back 1 := ⟨zTb_k zTc5 (List.mem_of_getElem? (i := 214) rfl) rfl, zTb_k zTc1 (List.mem_of_getElem? (i := 1) rfl) rfl, zTb_k zTc5 (List.mem_of_getElem? (i := 217) rfl) rfl, by decide +kernel, by decide⟩
theorem zkL_12 : zKC RL 12 mX12_init 0 := ⟨zTb_k zTc5 (List.mem_of_getElem? (i := 220) rfl) rfl, zTb_k zTc1 (List.mem_of_getElem? (i := 13) rfl) rfl, zTb_k zTc5 (List.mem_of_getElem? (i := 222) rfl) rfl, by decide +kernel, by decide⟩
theorem zkX12_139 : zKC RX12 139 mX12_clears 1 := ⟨zTb_k zTc5 (List.mem_of_getElem? (i := 224) rfl) rfl, zTb_k zTc1 (List.mem_of_getElem? (i := 13) rfl) rfl, zTb_k zTc5 (List.mem_of_getElem? (i := 227) rfl) rfl, by decide +kernel, by decide⟩
theorem zkL_17 : zKC RL 17 mX12_feed 5 := ⟨zTb_k zTc6 (List.mem_of_getElem? (i := 192) rfl) rfl, zTb_k zTc1 (List.mem_of_getElem? (i := 13) rfl) rfl, zTb_k zTc6 (List.mem_of_getElem? (i := 195) rfl) rfl, by decide +kernel, by decide⟩
theorem zkX12_150 : zKC RX12 150 mX12_put 1 := ⟨zTb_k zTc6 (List.mem_of_getElem? (i := 196) rfl) rfl, zTb_k zTc1 (List.mem_of_getElem? (i := 13) rfl) rfl, zTb_k zTc6 (List.mem_of_getElem? (i := 199) rfl) rfl, by decide +kernel, by decide⟩
theorem zkL_22 : zKC RL 22 mX12_end 1 := ⟨zTb_k zTc6 (List.mem_of_getElem? (i := 200) rfl) rfl, zTb_k zTc1 (List.mem_of_getElem? (i := 13) rfl) rfl, zTb_k zTc6 (List.mem_of_getElem? (i := 203) rfl) rfl, by decide +kernel, by decide⟩
theorem zkL_27 : zKC RL 27 mX12_book 0 := ⟨zTb_k zTc6 (List.mem_of_getElem? (i := 204) rfl) rfl, zTb_k zTc1 (List.mem_of_getElem? (i := 13) rfl) rfl, zTb_k zTc6 (List.mem_of_getElem? (i := 207) rfl) rfl, by decide +kernel, by decide⟩
theorem zkX12_344 : zKC RX12 344 mX12_reads 0 := ⟨zTb_k zTc6 (List.mem_of_getElem? (i := 208) rfl) rfl, zTb_k zTc1 (List.mem_of_getElem? (i := 13) rfl) rfl, zTb_k zTc6 (List.mem_of_getElem? (i := 211) rfl) rfl, by decide +kernel, by decide⟩
theorem zkX12_338 : zKC RX12 338 mX12_ruleClause 1 := ⟨zTb_k zTc6 (List.mem_of_getElem? (i := 212) rfl) rfl, zTb_k zTc1 (List.mem_of_getElem? (i := 13) rfl) rfl, zTb_k zTc6 (List.mem_of_getElem? (i := 215) rfl) rfl, by decide +kernel, by decide⟩
theorem zkX12_213 : zKC RX12 213 mX12_blanks 0 := ⟨zTb_k zTc6 (List.mem_of_getElem? (i := 216) rfl) rfl, zTb_k zTc1 (List.mem_of_getElem? (i := 13) rfl) rfl, zTb_k zTc6 (List.mem_of_getElem? (i := 219) rfl) rfl, by decide +kernel, by decide⟩
theorem zkX12_193 : zKC RX12 193 mX12_sign 0 := ⟨zTb_k zTc6 (List.mem_of_getElem? (i := 220) rfl) rfl, zTb_k zTc1 (List.mem_of_getElem? (i := 13) rfl) rfl, zTb_k zTc6 (List.mem_of_getElem? (i := 223) rfl) rfl, by decide +kernel, by decide⟩
theorem zkX12_216 : zKC RX12 216 mX12_stands 1 := ⟨zTb_k zTc6 (List.mem_of_getElem? (i := 225) rfl) rfl, zTb_k zTc1 (List.mem_of_getElem? (i := 13) rfl) rfl, zTb_k zTc6 (List.mem_of_getElem? (i := 228) rfl) rfl, by decide +kernel, by decide⟩
theorem zkX12_204 : zKC RX12 204 mJ0_length_8abf5 0 := ⟨zTb_k zTc6 (List.mem_of_getElem? (i := 229) rfl) rfl, zTb_k zTc1 (List.mem_of_getElem? (i := 14) rfl) rfl, zTb_k zTc3 (List.mem_of_getElem? (i := 65) rfl) rfl, by decide +kernel, by decide⟩
theorem zkX12_209 : zKC RX12 209 mJ0_charAt_5068e 1 := ⟨zTb_k zTc6 (List.mem_of_getElem? (i := 230) rfl) rfl, zTb_k zTc1 (List.mem_of_getElem? (i := 14) rfl) rfl, zTb_k zTc3 (List.mem_of_getElem? (i := 75) rfl) rfl, by decide +kernel, by decide⟩
theorem zkX12_226 : zKC RX12 226 mX12_fails 2 := ⟨zTb_k zTc6 (List.mem_of_getElem? (i := 232) rfl) rfl, zTb_k zTc1 (List.mem_of_getElem? (i := 13) rfl) rfl, zTb_k zTc6 (List.mem_of_getElem? (i := 235) rfl) rfl, by decide +kernel, by decide⟩
theorem zkX12_321 : zKC RX12 321 mX12_wasTold 2 := ⟨zTb_k zTc6 (List.mem_of_getElem? (i := 236) rfl) rfl, zTb_k zTc1 (List.mem_of_getElem? (i := 13) rfl) rfl, zTb_k zTc6 (List.mem_of_getElem? (i := 239) rfl) rfl, by decide +kernel, by decide⟩
theorem zkX12_302 : zKC RX12 302 mX12_amount 2 := ⟨zTb_k zTc7 (List.mem_of_getElem? (i := 0) rfl) rfl, zTb_k zTc1 (List.mem_of_getElem? (i := 13) rfl) rfl, zTb_k zTc7 (List.mem_of_getElem? (i := 3) rfl) rfl, by decide +kernel, by decide⟩
theorem zkX12_235 : zKC RX12 235 mX12_digits 1 := ⟨zTb_k zTc7 (List.mem_of_getElem? (i := 4) rfl) rfl, zTb_k zTc1 (List.mem_of_getElem? (i := 13) rfl) rfl, zTb_k zTc7 (List.mem_of_getElem? (i := 7) rfl) rfl, by decide +kernel, by decide⟩
theorem zkX12_230 : zKC RX12 230 mX12_isDigit 0 := ⟨zTb_k zTc7 (List.mem_of_getElem? (i := 8) rfl) rfl, zTb_k zTc1 (List.mem_of_getElem? (i := 13) rfl) rfl, zTb_k zTc7 (List.mem_of_getElem? (i := 11) rfl) rfl, by decide +kernel, by decide⟩
theorem zkX12_201 : zKC RX12 201 mX12_in 3 := ⟨zTb_k zTc7 (List.mem_of_getElem? (i := 14) rfl) rfl, zTb_k zTc1 (List.mem_of_getElem? (i := 13) rfl) rfl, zTb_k zTc7 (List.mem_of_getElem? (i := 16) rfl) rfl, by decide +kernel, by decide⟩
theorem zkX12_257 : zKC RX12 257 mX12_sum 0 := ⟨zTb_k zTc7 (List.mem_of_getElem? (i := 17) rfl) rfl, zTb_k zTc1 (List.mem_of_getElem? (i := 13) rfl) rfl, zTb_k zTc7 (List.mem_of_getElem? (i := 20) rfl) rfl, by decide +kernel, by decide⟩
theorem zkX12_254 : zKC RX12 254 mX12_term 0 := ⟨zTb_k zTc7 (List.mem_of_getElem? (i := 21) rfl) rfl, zTb_k zTc1 (List.mem_of_getElem? (i := 13) rfl) rfl, zTb_k zTc7 (List.mem_of_getElem? (i := 24) rfl) rfl, by decide +kernel, by decide⟩
theorem zkX12_251 : zKC RX12 251 mX12_value 0 := ⟨zTb_k zTc7 (List.mem_of_getElem? (i := 25) rfl) rfl, zTb_k zTc1 (List.mem_of_getElem? (i := 13) rfl) rfl, zTb_k zTc7 (List.mem_of_getElem? (i := 28) rfl) rfl, by decide +kernel, by decide⟩
theorem zkX12_239 : zKC RX12 239 mX12_isCounted 1 := ⟨zTb_k zTc7 (List.mem_of_getElem? (i := 30) rfl) rfl, zTb_k zTc1 (List.mem_of_getElem? (i := 13) rfl) rfl, zTb_k zTc7 (List.mem_of_getElem? (i := 33) rfl) rfl, by decide +kernel, by decide⟩
theorem zkX12_242 : zKC RX12 242 mX12_entry 2 := ⟨zTb_k zTc7 (List.mem_of_getElem? (i := 34) rfl) rfl, zTb_k zTc1 (List.mem_of_getElem? (i := 13) rfl) rfl, zTb_k zTc7 (List.mem_of_getElem? (i := 37) rfl) rfl, by decide +kernel, by decide⟩
theorem zkX12_248 : zKC RX12 248 mX12_wordOf 1 := ⟨zTb_k zTc7 (List.mem_of_getElem? (i := 38) rfl) rfl, zTb_k zTc1 (List.mem_of_getElem? (i := 13) rfl) rfl, zTb_k zTc7 (List.mem_of_getElem? (i := 41) rfl) rfl, by decide +kernel, by decide⟩
theorem zkX12_156 : zKC RX12 156 mX12_ruleWord 1 := ⟨zTb_k zTc7 (List.mem_of_getElem? (i := 42) rfl) rfl, zTb_k zTc1 (List.mem_of_getElem? (i := 13) rfl) rfl, zTb_k zTc7 (List.mem_of_getElem? (i := 44) rfl) rfl, by decide +kernel, by decide⟩
theorem zkX12_314 : zKC RX12 314 mX12_ifTest 0 := ⟨zTb_k zTc7 (List.mem_of_getElem? (i := 54) rfl) rfl, zTb_k zTc1 (List.mem_of_getElem? (i := 13) rfl) rfl, zTb_k zTc7 (List.mem_of_getElem? (i := 57) rfl) rfl, by decide +kernel, by decide⟩
theorem zkX12_293 : zKC RX12 293 mX12_takes 1 := ⟨zTb_k zTc7 (List.mem_of_getElem? (i := 59) rfl) rfl, zTb_k zTc1 (List.mem_of_getElem? (i := 13) rfl) rfl, zTb_k zTc7 (List.mem_of_getElem? (i := 62) rfl) rfl, by decide +kernel, by decide⟩
theorem zkX12_296 : zKC RX12 296 mX12_test 0 := ⟨zTb_k zTc7 (List.mem_of_getElem? (i := 63) rfl) rfl, zTb_k zTc1 (List.mem_of_getElem? (i := 13) rfl) rfl, zTb_k zTc7 (List.mem_of_getElem? (i := 66) rfl) rfl, by decide +kernel, by decide⟩
theorem zkX12_277 : zKC RX12 277 mX12_fact 0 := ⟨zTb_k zTc7 (List.mem_of_getElem? (i := 67) rfl) rfl, zTb_k zTc1 (List.mem_of_getElem? (i := 13) rfl) rfl, zTb_k zTc7 (List.mem_of_getElem? (i := 70) rfl) rfl, by decide +kernel, by decide⟩
theorem zkX12_271 : zKC RX12 271 mX12_opens 1 := ⟨zTb_k zTc7 (List.mem_of_getElem? (i := 72) rfl) rfl, zTb_k zTc1 (List.mem_of_getElem? (i := 13) rfl) rfl, zTb_k zTc7 (List.mem_of_getElem? (i := 75) rfl) rfl, by decide +kernel, by decide⟩
theorem zkX12_274 : zKC RX12 274 mX12_compared 0 := ⟨zTb_k zTc7 (List.mem_of_getElem? (i := 76) rfl) rfl, zTb_k zTc1 (List.mem_of_getElem? (i := 13) rfl) rfl, zTb_k zTc7 (List.mem_of_getElem? (i := 79) rfl) rfl, by decide +kernel, by decide⟩
theorem zkX12_280 : zKC RX12 280 mX12_answers 1 := ⟨zTb_k zTc7 (List.mem_of_getElem? (i := 80) rfl) rfl, zTb_k zTc1 (List.mem_of_getElem? (i := 13) rfl) rfl, zTb_k zTc7 (List.mem_of_getElem? (i := 83) rfl) rfl, by decide +kernel, by decide⟩
theorem zkX12_266 : zKC RX12 266 mX12_top 0 := ⟨zTb_k zTc7 (List.mem_of_getElem? (i := 84) rfl) rfl, zTb_k zTc1 (List.mem_of_getElem? (i := 13) rfl) rfl, zTb_k zTc7 (List.mem_of_getElem? (i := 87) rfl) rfl, by decide +kernel, by decide⟩
theorem zkX12_341 : zKC RX12 341 mX12_bookClause 1 := ⟨zTb_k zTc7 (List.mem_of_getElem? (i := 90) rfl) rfl, zTb_k zTc1 (List.mem_of_getElem? (i := 13) rfl) rfl, zTb_k zTc7 (List.mem_of_getElem? (i := 93) rfl) rfl, by decide +kernel, by decide⟩
theorem zkX12_318 : zKC RX12 318 mX12_clauseOf 1 := ⟨zTb_k zTc7 (List.mem_of_getElem? (i := 94) rfl) rfl, zTb_k zTc1 (List.mem_of_getElem? (i := 13) rfl) rfl, zTb_k zTc7 (List.mem_of_getElem? (i := 96) rfl) rfl, by decide +kernel, by decide⟩
theorem zkX12_325 : zKC RX12 325 mX12_thingClause 0 := ⟨zTb_k zTc7 (List.mem_of_getElem? (i := 103) rfl) rfl, zTb_k zTc1 (List.mem_of_getElem? (i := 13) rfl) rfl, zTb_k zTc7 (List.mem_of_getElem? (i := 106) rfl) rfl, by decide +kernel, by decide⟩
theorem zkX12_299 : zKC RX12 299 mX12_letter 0 := ⟨zTb_k zTc7 (List.mem_of_getElem? (i := 107) rfl) rfl, zTb_k zTc1 (List.mem_of_getElem? (i := 13) rfl) rfl, zTb_k zTc7 (List.mem_of_getElem? (i := 110) rfl) rfl, by decide +kernel, by decide⟩
theorem zkX12_306 : zKC RX12 306 mX12_extraOf 1 := ⟨zTb_k zTc7 (List.mem_of_getElem? (i := 113) rfl) rfl, zTb_k zTc1 (List.mem_of_getElem? (i := 13) rfl) rfl, zTb_k zTc7 (List.mem_of_getElem? (i := 115) rfl) rfl, by decide +kernel, by decide⟩
theorem zkX12_309 : zKC RX12 309 mX12_extra 2 := ⟨zTb_k zTc7 (List.mem_of_getElem? (i := 119) rfl) rfl, zTb_k zTc1 (List.mem_of_getElem? (i := 13) rfl) rfl, zTb_k zTc7 (List.mem_of_getElem? (i := 122) rfl) rfl, by decide +kernel, by decide⟩
theorem zkX12_328 : zKC RX12 328 mX12_setClause 1 := ⟨zTb_k zTc7 (List.mem_of_getElem? (i := 123) rfl) rfl, zTb_k zTc1 (List.mem_of_getElem? (i := 13) rfl) rfl, zTb_k zTc7 (List.mem_of_getElem? (i := 126) rfl) rfl, by decide +kernel, by decide⟩
theorem zkX12_331 : zKC RX12 331 mX12_onceClause 1 := ⟨zTb_k zTc7 (List.mem_of_getElem? (i := 128) rfl) rfl, zTb_k zTc1 (List.mem_of_getElem? (i := 13) rfl) rfl, zTb_k zTc7 (List.mem_of_getElem? (i := 131) rfl) rfl, by decide +kernel, by decide⟩
theorem zkX12_347 : zKC RX12 347 mX12_over 2 := ⟨zTb_k zTc7 (List.mem_of_getElem? (i := 133) rfl) rfl, zTb_k zTc1 (List.mem_of_getElem? (i := 13) rfl) rfl, zTb_k zTc7 (List.mem_of_getElem? (i := 135) rfl) rfl, by decide +kernel, by decide⟩
theorem zkX12_354 : zKC RX12 354 mX12_all 0 := ⟨zTb_k zTc7 (List.mem_of_getElem? (i := 136) rfl) rfl, zTb_k zTc1 (List.mem_of_getElem? (i := 13) rfl) rfl, zTb_k zTc7 (List.mem_of_getElem? (i := 139) rfl) rfl, by decide +kernel, by decide⟩
theorem zkX12_357 : zKC RX12 357 mX12_bits 1 := ⟨zTb_k zTc7 (List.mem_of_getElem? (i := 140) rfl) rfl, zTb_k zTc1 (List.mem_of_getElem? (i := 13) rfl) rfl, zTb_k zTc7 (List.mem_of_getElem? (i := 142) rfl) rfl, by decide +kernel, by decide⟩
theorem zkL_31 : zKC RL 31 mX12_rule 0 := ⟨zTb_k zTc7 (List.mem_of_getElem? (i := 143) rfl) rfl, zTb_k zTc1 (List.mem_of_getElem? (i := 13) rfl) rfl, zTb_k zTc7 (List.mem_of_getElem? (i := 146) rfl) rfl, by decide +kernel, by decide⟩
theorem zkL_36 : zKC RL 36 mX12_thing 2 := ⟨zTb_k zTc7 (List.mem_of_getElem? (i := 147) rfl) rfl, zTb_k zTc1 (List.mem_of_getElem? (i := 13) rfl) rfl, zTb_k zTc7 (List.mem_of_getElem? (i := 150) rfl) rfl, by decide +kernel, by decide⟩
theorem zkX12_375 : zKC RX12 375 mX12_has 1 := ⟨zTb_k zTc7 (List.mem_of_getElem? (i := 151) rfl) rfl, zTb_k zTc1 (List.mem_of_getElem? (i := 13) rfl) rfl, zTb_k zTc7 (List.mem_of_getElem? (i := 154) rfl) rfl, by decide +kernel, by decide⟩
theorem zkL_40 : zKC RL 40 mX12_count 1 := ⟨zTb_k zTc7 (List.mem_of_getElem? (i := 156) rfl) rfl, zTb_k zTc1 (List.mem_of_getElem? (i := 13) rfl) rfl, zTb_k zTc7 (List.mem_of_getElem? (i := 159) rfl) rfl, by decide +kernel, by decide⟩
theorem zkX12_379 : zKC RX12 379 mX12_clausesOf 1 := ⟨zTb_k zTc7 (List.mem_of_getElem? (i := 160) rfl) rfl, zTb_k zTc1 (List.mem_of_getElem? (i := 13) rfl) rfl, zTb_k zTc7 (List.mem_of_getElem? (i := 163) rfl) rfl, by decide +kernel, by decide⟩
theorem zkL_44 : zKC RL 44 mX12_owed 2 := ⟨zTb_k zTc7 (List.mem_of_getElem? (i := 164) rfl) rfl, zTb_k zTc1 (List.mem_of_getElem? (i := 13) rfl) rfl, zTb_k zTc7 (List.mem_of_getElem? (i := 167) rfl) rfl, by decide +kernel, by decide⟩
theorem zkX12_382 : zKC RX12 382 mX12_isWeek 1 := ⟨zTb_k zTc7 (List.mem_of_getElem? (i := 168) rfl) rfl, zTb_k zTc1 (List.mem_of_getElem? (i := 13) rfl) rfl, zTb_k zTc7 (List.mem_of_getElem? (i := 170) rfl) rfl, by decide +kernel, by decide⟩
theorem zkX12_385 : zKC RX12 385 mX12_owedAtFirst 2 := ⟨zTb_k zTc7 (List.mem_of_getElem? (i := 172) rfl) rfl, zTb_k zTc1 (List.mem_of_getElem? (i := 13) rfl) rfl, zTb_k zTc7 (List.mem_of_getElem? (i := 175) rfl) rfl, by decide +kernel, by decide⟩
theorem zkL_49 : zKC RL 49 mX12_earned 3 := ⟨zTb_k zTc7 (List.mem_of_getElem? (i := 176) rfl) rfl, zTb_k zTc1 (List.mem_of_getElem? (i := 13) rfl) rfl, zTb_k zTc7 (List.mem_of_getElem? (i := 179) rfl) rfl, by decide +kernel, by decide⟩
theorem zkX12_392 : zKC RX12 392 mX12_isSet 1 := ⟨zTb_k zTc7 (List.mem_of_getElem? (i := 180) rfl) rfl, zTb_k zTc1 (List.mem_of_getElem? (i := 13) rfl) rfl, zTb_k zTc7 (List.mem_of_getElem? (i := 183) rfl) rfl, by decide +kernel, by decide⟩
theorem zkX12_395 : zKC RX12 395 mX12_comes 4 := ⟨zTb_k zTc7 (List.mem_of_getElem? (i := 184) rfl) rfl, zTb_k zTc1 (List.mem_of_getElem? (i := 13) rfl) rfl, zTb_k zTc7 (List.mem_of_getElem? (i := 187) rfl) rfl, by decide +kernel, by decide⟩
theorem zkX12_388 : zKC RX12 388 mX12_answer 3 := ⟨zTb_k zTc7 (List.mem_of_getElem? (i := 188) rfl) rfl, zTb_k zTc1 (List.mem_of_getElem? (i := 13) rfl) rfl, zTb_k zTc7 (List.mem_of_getElem? (i := 191) rfl) rfl, by decide +kernel, by decide⟩
theorem zkX12_367 : zKC RX12 367 mX12_both 3 := ⟨zTb_k zTc7 (List.mem_of_getElem? (i := 192) rfl) rfl, zTb_k zTc1 (List.mem_of_getElem? (i := 13) rfl) rfl, zTb_k zTc7 (List.mem_of_getElem? (i := 194) rfl) rfl, by decide +kernel, by decide⟩
theorem zkX12_363 : zKC RX12 363 mX12_truth 1 := ⟨zTb_k zTc7 (List.mem_of_getElem? (i := 195) rfl) rfl, zTb_k zTc1 (List.mem_of_getElem? (i := 13) rfl) rfl, zTb_k zTc7 (List.mem_of_getElem? (i := 197) rfl) rfl, by decide +kernel, by decide⟩
theorem zkL_53 : zKC RL 53 mX12_act 3 := ⟨zTb_k zTc7 (List.mem_of_getElem? (i := 198) rfl) rfl, zTb_k zTc1 (List.mem_of_getElem? (i := 13) rfl) rfl, zTb_k zTc7 (List.mem_of_getElem? (i := 201) rfl) rfl, by decide +kernel, by decide⟩
theorem zkL_58 : zKC RL 58 mX12_row 1 := ⟨zTb_k zTc7 (List.mem_of_getElem? (i := 203) rfl) rfl, zTb_k zTc1 (List.mem_of_getElem? (i := 13) rfl) rfl, zTb_k zTc7 (List.mem_of_getElem? (i := 206) rfl) rfl, by decide +kernel, by decide⟩
theorem zkL_62 : zKC RL 62 mX12_judged 1 := ⟨zTb_k zTc7 (List.mem_of_getElem? (i := 207) rfl) rfl, zTb_k zTc1 (List.mem_of_getElem? (i := 13) rfl) rfl, zTb_k zTc7 (List.mem_of_getElem? (i := 210) rfl) rfl, by decide +kernel, by decide⟩
theorem zkX12_454 : zKC RX12 454 mX12_goesBy 2 := ⟨zTb_k zTc7 (List.mem_of_getElem? (i := 211) rfl) rfl, zTb_k zTc1 (List.mem_of_getElem? (i := 13) rfl) rfl, zTb_k zTc7 (List.mem_of_getElem? (i := 214) rfl) rfl, by decide +kernel, by decide⟩
theorem zkX12_437 : zKC RX12 437 mX12_begins 0 := ⟨zTb_k zTc7 (List.mem_of_getElem? (i := 215) rfl) rfl, zTb_k zTc1 (List.mem_of_getElem? (i := 13) rfl) rfl, zTb_k zTc7 (List.mem_of_getElem? (i := 218) rfl) rfl, by decide +kernel, by decide⟩
theorem zkX12_440 : zKC RX12 440 mX12_works 3 := ⟨zTb_k zTc7 (List.mem_of_getElem? (i := 219) rfl) rfl, zTb_k zTc1 (List.mem_of_getElem? (i := 13) rfl) rfl, zTb_k zTc7 (List.mem_of_getElem? (i := 222) rfl) rfl, by decide +kernel, by decide⟩
theorem zkX12_444 : zKC RX12 444 mX12_loses 1 := ⟨zTb_k zTc7 (List.mem_of_getElem? (i := 228) rfl) rfl, zTb_k zTc1 (List.mem_of_getElem? (i := 13) rfl) rfl, zTb_k zTc7 (List.mem_of_getElem? (i := 231) rfl) rfl, by decide +kernel, by decide⟩
theorem zkX12_447 : zKC RX12 447 mX12_does 1 := ⟨zTb_k zTc7 (List.mem_of_getElem? (i := 232) rfl) rfl, zTb_k zTc1 (List.mem_of_getElem? (i := 13) rfl) rfl, zTb_k zTc7 (List.mem_of_getElem? (i := 235) rfl) rfl, by decide +kernel, by decide⟩
theorem zkX12_417 : zKC RX12 417 mX12_owedNow 2 := ⟨zTb_k zTc7 (List.mem_of_getElem? (i := 236) rfl) rfl, zTb_k zTc1 (List.mem_of_getElem? (i := 13) rfl) rfl, zTb_k zTc7 (List.mem_of_getElem? (i := 239) rfl) rfl, by decide +kernel, by decide⟩
theorem zkX12_450 : zKC RX12 450 mX12_ends 2 := ⟨zTb_k zTc8 (List.mem_of_getElem? (i := 0) rfl) rfl, zTb_k zTc1 (List.mem_of_getElem? (i := 13) rfl) rfl, zTb_k zTc8 (List.mem_of_getElem? (i := 3) rfl) rfl, by decide +kernel, by decide⟩
theorem zkX12_420 : zKC RX12 420 mX12_placed 1 := ⟨zTb_k zTc8 (List.mem_of_getElem? (i := 4) rfl) rfl, zTb_k zTc1 (List.mem_of_getElem? (i := 13) rfl) rfl, zTb_k zTc8 (List.mem_of_getElem? (i := 7) rfl) rfl, by decide +kernel, by decide⟩
theorem zkL_66 : zKC RL 66 mX12_then 2 := ⟨zTb_k zTc8 (List.mem_of_getElem? (i := 8) rfl) rfl, zTb_k zTc1 (List.mem_of_getElem? (i := 13) rfl) rfl, zTb_k zTc8 (List.mem_of_getElem? (i := 11) rfl) rfl, by decide +kernel, by decide⟩
theorem zkL_127 : zKC RL 127 mX12_holds 2 := ⟨zTb_k zTc8 (List.mem_of_getElem? (i := 12) rfl) rfl, zTb_k zTc1 (List.mem_of_getElem? (i := 13) rfl) rfl, zTb_k zTc8 (List.mem_of_getElem? (i := 15) rfl) rfl, by decide +kernel, by decide⟩
theorem zkL_135 : zKC RL 135 mX12_surely 0 := ⟨zTb_k zTc8 (List.mem_of_getElem? (i := 17) rfl) rfl, zTb_k zTc1 (List.mem_of_getElem? (i := 13) rfl) rfl, zTb_k zTc8 (List.mem_of_getElem? (i := 20) rfl) rfl, by decide +kernel, by decide⟩
theorem zkL_70 : zKC RL 70 mX12_soon 0 := ⟨zTb_k zTc8 (List.mem_of_getElem? (i := 22) rfl) rfl, zTb_k zTc1 (List.mem_of_getElem? (i := 13) rfl) rfl, zTb_k zTc8 (List.mem_of_getElem? (i := 25) rfl) rfl, by decide +kernel, by decide⟩
theorem zkX12_497 : zKC RX12 497 mX12_asItIs 0 := ⟨zTb_k zTc8 (List.mem_of_getElem? (i := 26) rfl) rfl, zTb_k zTc1 (List.mem_of_getElem? (i := 13) rfl) rfl, zTb_k zTc8 (List.mem_of_getElem? (i := 29) rfl) rfl, by decide +kernel, by decide⟩
theorem zkX12_491 : zKC RX12 491 mX12_plans 0 := ⟨zTb_k zTc8 (List.mem_of_getElem? (i := 30) rfl) rfl, zTb_k zTc1 (List.mem_of_getElem? (i := 13) rfl) rfl, zTb_k zTc8 (List.mem_of_getElem? (i := 33) rfl) rfl, by decide +kernel, by decide⟩
theorem zkX12_482 : zKC RX12 482 mX12_fetchable 2 := ⟨zTb_k zTc8 (List.mem_of_getElem? (i := 34) rfl) rfl, zTb_k zTc1 (List.mem_of_getElem? (i := 13) rfl) rfl, zTb_k zTc8 (List.mem_of_getElem? (i := 37) rfl) rfl, by decide +kernel, by decide⟩
theorem zkX12_479 : zKC RX12 479 mX12_gone 1 := ⟨zTb_k zTc8 (List.mem_of_getElem? (i := 38) rfl) rfl, zTb_k zTc1 (List.mem_of_getElem? (i := 13) rfl) rfl, zTb_k zTc8 (List.mem_of_getElem? (i := 41) rfl) rfl, by decide +kernel, by decide⟩
theorem zkX12_485 : zKC RX12 485 mX12_leads 4 := ⟨zTb_k zTc8 (List.mem_of_getElem? (i := 42) rfl) rfl, zTb_k zTc1 (List.mem_of_getElem? (i := 13) rfl) rfl, zTb_k zTc8 (List.mem_of_getElem? (i := 45) rfl) rfl, by decide +kernel, by decide⟩
theorem zkL_74 : zKC RL 74 mX12_best 1 := ⟨zTb_k zTc8 (List.mem_of_getElem? (i := 46) rfl) rfl, zTb_k zTc1 (List.mem_of_getElem? (i := 13) rfl) rfl, zTb_k zTc8 (List.mem_of_getElem? (i := 49) rfl) rfl, by decide +kernel, by decide⟩
theorem zkX12_502 : zKC RX12 502 mX12_mostCoin 0 := ⟨zTb_k zTc8 (List.mem_of_getElem? (i := 51) rfl) rfl, zTb_k zTc1 (List.mem_of_getElem? (i := 13) rfl) rfl, zTb_k zTc8 (List.mem_of_getElem? (i := 54) rfl) rfl, by decide +kernel, by decide⟩
theorem zkX12_494 : zKC RX12 494 mX12_atEnd 0 := ⟨zTb_k zTc8 (List.mem_of_getElem? (i := 55) rfl) rfl, zTb_k zTc1 (List.mem_of_getElem? (i := 13) rfl) rfl, zTb_k zTc8 (List.mem_of_getElem? (i := 58) rfl) rfl, by decide +kernel, by decide⟩
theorem zkX12_488 : zKC RX12 488 mX12_planned 1 := ⟨zTb_k zTc8 (List.mem_of_getElem? (i := 59) rfl) rfl, zTb_k zTc1 (List.mem_of_getElem? (i := 13) rfl) rfl, zTb_k zTc8 (List.mem_of_getElem? (i := 62) rfl) rfl, by decide +kernel, by decide⟩
theorem zkX12_505 : zKC RX12 505 mX12_states 1 := ⟨zTb_k zTc8 (List.mem_of_getElem? (i := 63) rfl) rfl, zTb_k zTc1 (List.mem_of_getElem? (i := 13) rfl) rfl, zTb_k zTc8 (List.mem_of_getElem? (i := 66) rfl) rfl, by decide +kernel, by decide⟩
theorem zkX12_509 : zKC RX12 509 mX12_richest 0 := ⟨zTb_k zTc8 (List.mem_of_getElem? (i := 67) rfl) rfl, zTb_k zTc1 (List.mem_of_getElem? (i := 13) rfl) rfl, zTb_k zTc8 (List.mem_of_getElem? (i := 70) rfl) rfl, by decide +kernel, by decide⟩
theorem zkL_78 : zKC RL 78 mX12_fetched 1 := ⟨zTb_k zTc8 (List.mem_of_getElem? (i := 71) rfl) rfl, zTb_k zTc1 (List.mem_of_getElem? (i := 13) rfl) rfl, zTb_k zTc8 (List.mem_of_getElem? (i := 74) rfl) rfl, by decide +kernel, by decide⟩
theorem zkX12_512 : zKC RX12 512 mX12_goesBack 0 := ⟨zTb_k zTc8 (List.mem_of_getElem? (i := 75) rfl) rfl, zTb_k zTc1 (List.mem_of_getElem? (i := 13) rfl) rfl, zTb_k zTc8 (List.mem_of_getElem? (i := 78) rfl) rfl, by decide +kernel, by decide⟩
theorem zkL_82 : zKC RL 82 mX12_hangs 1 := ⟨zTb_k zTc8 (List.mem_of_getElem? (i := 79) rfl) rfl, zTb_k zTc1 (List.mem_of_getElem? (i := 13) rfl) rfl, zTb_k zTc8 (List.mem_of_getElem? (i := 82) rfl) rfl, by decide +kernel, by decide⟩
theorem zkX12_518 : zKC RX12 518 mX12_asBest 0 := ⟨zTb_k zTc8 (List.mem_of_getElem? (i := 83) rfl) rfl, zTb_k zTc1 (List.mem_of_getElem? (i := 13) rfl) rfl, zTb_k zTc8 (List.mem_of_getElem? (i := 86) rfl) rfl, by decide +kernel, by decide⟩
theorem zkX12_521 : zKC RX12 521 mX12_hangsOn 2 := ⟨zTb_k zTc8 (List.mem_of_getElem? (i := 87) rfl) rfl, zTb_k zTc1 (List.mem_of_getElem? (i := 13) rfl) rfl, zTb_k zTc8 (List.mem_of_getElem? (i := 90) rfl) rfl, by decide +kernel, by decide⟩
theorem zkX12_515 : zKC RX12 515 mX12_without 1 := ⟨zTb_k zTc8 (List.mem_of_getElem? (i := 91) rfl) rfl, zTb_k zTc1 (List.mem_of_getElem? (i := 13) rfl) rfl, zTb_k zTc8 (List.mem_of_getElem? (i := 94) rfl) rfl, by decide +kernel, by decide⟩
theorem zkL_86 : zKC RL 86 mX12_key 0 := ⟨zTb_k zTc8 (List.mem_of_getElem? (i := 95) rfl) rfl, zTb_k zTc1 (List.mem_of_getElem? (i := 13) rfl) rfl, zTb_k zTc8 (List.mem_of_getElem? (i := 98) rfl) rfl, by decide +kernel, by decide⟩
theorem zkL_90 : zKC RL 90 mX12_wise 1 := ⟨zTb_k zTc8 (List.mem_of_getElem? (i := 99) rfl) rfl, zTb_k zTc1 (List.mem_of_getElem? (i := 13) rfl) rfl, zTb_k zTc8 (List.mem_of_getElem? (i := 102) rfl) rfl, by decide +kernel, by decide⟩
theorem zkL_94 : zKC RL 94 mX12_borrowed 1 := ⟨zTb_k zTc8 (List.mem_of_getElem? (i := 105) rfl) rfl, zTb_k zTc1 (List.mem_of_getElem? (i := 13) rfl) rfl, zTb_k zTc8 (List.mem_of_getElem? (i := 108) rfl) rfl, by decide +kernel, by decide⟩
theorem zkX12_526 : zKC RX12 526 mX12_isOfBook 1 := ⟨zTb_k zTc8 (List.mem_of_getElem? (i := 109) rfl) rfl, zTb_k zTc1 (List.mem_of_getElem? (i := 13) rfl) rfl, zTb_k zTc8 (List.mem_of_getElem? (i := 112) rfl) rfl, by decide +kernel, by decide⟩
theorem zkX12_529 : zKC RX12 529 mX12_borrowedIn 1 := ⟨zTb_k zTc8 (List.mem_of_getElem? (i := 113) rfl) rfl, zTb_k zTc1 (List.mem_of_getElem? (i := 13) rfl) rfl, zTb_k zTc8 (List.mem_of_getElem? (i := 116) rfl) rfl, by decide +kernel, by decide⟩
theorem zkL_98 : zKC RL 98 mX12_when 0 := ⟨zTb_k zTc8 (List.mem_of_getElem? (i := 117) rfl) rfl, zTb_k zTc1 (List.mem_of_getElem? (i := 13) rfl) rfl, zTb_k zTc8 (List.mem_of_getElem? (i := 120) rfl) rfl, by decide +kernel, by decide⟩
theorem zkL_102 : zKC RL 102 mX12_sold 2 := ⟨zTb_k zTc8 (List.mem_of_getElem? (i := 121) rfl) rfl, zTb_k zTc1 (List.mem_of_getElem? (i := 13) rfl) rfl, zTb_k zTc8 (List.mem_of_getElem? (i := 124) rfl) rfl, by decide +kernel, by decide⟩
theorem zkX12_532 : zKC RX12 532 mX12_soldBy 2 := ⟨zTb_k zTc8 (List.mem_of_getElem? (i := 125) rfl) rfl, zTb_k zTc1 (List.mem_of_getElem? (i := 13) rfl) rfl, zTb_k zTc8 (List.mem_of_getElem? (i := 128) rfl) rfl, by decide +kernel, by decide⟩
theorem zkL_106 : zKC RL 106 mX12_selling 1 := ⟨zTb_k zTc8 (List.mem_of_getElem? (i := 129) rfl) rfl, zTb_k zTc1 (List.mem_of_getElem? (i := 13) rfl) rfl, zTb_k zTc8 (List.mem_of_getElem? (i := 132) rfl) rfl, by decide +kernel, by decide⟩
theorem zkL_111 : zKC RL 111 mX12_likes 5 := ⟨zTb_k zTc8 (List.mem_of_getElem? (i := 133) rfl) rfl, zTb_k zTc1 (List.mem_of_getElem? (i := 13) rfl) rfl, zTb_k zTc8 (List.mem_of_getElem? (i := 136) rfl) rfl, by decide +kernel, by decide⟩
theorem zkX12_537 : zKC RX12 537 mX12_isRule 1 := ⟨zTb_k zTc8 (List.mem_of_getElem? (i := 137) rfl) rfl, zTb_k zTc1 (List.mem_of_getElem? (i := 13) rfl) rfl, zTb_k zTc8 (List.mem_of_getElem? (i := 140) rfl) rfl, by decide +kernel, by decide⟩
theorem zkX12_542 : zKC RX12 542 mX12_likesIt 6 := ⟨zTb_k zTc8 (List.mem_of_getElem? (i := 142) rfl) rfl, zTb_k zTc1 (List.mem_of_getElem? (i := 13) rfl) rfl, zTb_k zTc8 (List.mem_of_getElem? (i := 145) rfl) rfl, by decide +kernel, by decide⟩
theorem zkL_115 : zKC RL 115 mX12_ruled 2 := ⟨zTb_k zTc8 (List.mem_of_getElem? (i := 147) rfl) rfl, zTb_k zTc1 (List.mem_of_getElem? (i := 13) rfl) rfl, zTb_k zTc8 (List.mem_of_getElem? (i := 150) rfl) rfl, by decide +kernel, by decide⟩
theorem zkX12_554 : zKC RX12 554 mX12_follows 2 := ⟨zTb_k zTc8 (List.mem_of_getElem? (i := 152) rfl) rfl, zTb_k zTc1 (List.mem_of_getElem? (i := 13) rfl) rfl, zTb_k zTc8 (List.mem_of_getElem? (i := 155) rfl) rfl, by decide +kernel, by decide⟩
theorem zkX12_549 : zKC RX12 549 mX12_nextOf 2 := ⟨zTb_k zTc8 (List.mem_of_getElem? (i := 156) rfl) rfl, zTb_k zTc1 (List.mem_of_getElem? (i := 13) rfl) rfl, zTb_k zTc8 (List.mem_of_getElem? (i := 159) rfl) rfl, by decide +kernel, by decide⟩
theorem zkX12_546 : zKC RX12 546 mX12_keeps 1 := ⟨zTb_k zTc8 (List.mem_of_getElem? (i := 160) rfl) rfl, zTb_k zTc1 (List.mem_of_getElem? (i := 13) rfl) rfl, zTb_k zTc8 (List.mem_of_getElem? (i := 163) rfl) rfl, by decide +kernel, by decide⟩
theorem zkL_119 : zKC RL 119 mX12_finest 0 := ⟨zTb_k zTc8 (List.mem_of_getElem? (i := 164) rfl) rfl, zTb_k zTc1 (List.mem_of_getElem? (i := 13) rfl) rfl, zTb_k zTc8 (List.mem_of_getElem? (i := 167) rfl) rfl, by decide +kernel, by decide⟩
theorem zkL_123 : zKC RL 123 mX12_parts 2 := ⟨zTb_k zTc8 (List.mem_of_getElem? (i := 168) rfl) rfl, zTb_k zTc1 (List.mem_of_getElem? (i := 13) rfl) rfl, zTb_k zTc8 (List.mem_of_getElem? (i := 171) rfl) rfl, by decide +kernel, by decide⟩
theorem zkL_131 : zKC RL 131 mX12_goes 3 := ⟨zTb_k zTc8 (List.mem_of_getElem? (i := 172) rfl) rfl, zTb_k zTc1 (List.mem_of_getElem? (i := 13) rfl) rfl, zTb_k zTc8 (List.mem_of_getElem? (i := 175) rfl) rfl, by decide +kernel, by decide⟩
theorem zkL_139 : zKC RL 139 mX12_most 2 := ⟨zTb_k zTc8 (List.mem_of_getElem? (i := 176) rfl) rfl, zTb_k zTc1 (List.mem_of_getElem? (i := 13) rfl) rfl, zTb_k zTc8 (List.mem_of_getElem? (i := 179) rfl) rfl, by decide +kernel, by decide⟩
theorem zkL_143 : zKC RL 143 mX12_needed 2 := ⟨zTb_k zTc8 (List.mem_of_getElem? (i := 180) rfl) rfl, zTb_k zTc1 (List.mem_of_getElem? (i := 13) rfl) rfl, zTb_k zTc8 (List.mem_of_getElem? (i := 183) rfl) rfl, by decide +kernel, by decide⟩
theorem zkL_147 : zKC RL 147 mX12_pays 3 := ⟨zTb_k zTc8 (List.mem_of_getElem? (i := 184) rfl) rfl, zTb_k zTc1 (List.mem_of_getElem? (i := 13) rfl) rfl, zTb_k zTc8 (List.mem_of_getElem? (i := 187) rfl) rfl, by decide +kernel, by decide⟩
theorem zkL_151 : zKC RL 151 mX12_image 1 := ⟨zTb_k zTc8 (List.mem_of_getElem? (i := 188) rfl) rfl, zTb_k zTc1 (List.mem_of_getElem? (i := 13) rfl) rfl, zTb_k zTc8 (List.mem_of_getElem? (i := 191) rfl) rfl, by decide +kernel, by decide⟩
theorem zkX12_566 : zKC RX12 566 mX12_carries 1 := ⟨zTb_k zTc8 (List.mem_of_getElem? (i := 192) rfl) rfl, zTb_k zTc1 (List.mem_of_getElem? (i := 13) rfl) rfl, zTb_k zTc8 (List.mem_of_getElem? (i := 195) rfl) rfl, by decide +kernel, by decide⟩
theorem zkX12_563 : zKC RX12 563 mX12_carry 2 := ⟨zTb_k zTc8 (List.mem_of_getElem? (i := 196) rfl) rfl, zTb_k zTc1 (List.mem_of_getElem? (i := 13) rfl) rfl, zTb_k zTc8 (List.mem_of_getElem? (i := 199) rfl) rfl, by decide +kernel, by decide⟩
theorem zkL_155 : zKC RL 155 mX12_back 1 := ⟨zTb_k zTc8 (List.mem_of_getElem? (i := 200) rfl) rfl, zTb_k zTc1 (List.mem_of_getElem? (i := 13) rfl) rfl, zTb_k zTc8 (List.mem_of_getElem? (i := 203) rfl) rfl, by decide +kernel, by decide⟩
theorem ziX0_init : Cond.instanceMethod mX0_init.2.1 ∈ zTb := zTb_k zTc1 (List.mem_of_getElem? (i := 92) rfl) rfl
theorem ziX0_clear : Cond.instanceMethod mX0_clear.2.1 ∈ zTb := zTb_k zTc1 (List.mem_of_getElem? (i := 134) rfl) rfl
theorem zqX0_clear : Cond.selects mX0_clear.2.1.cls mX0_clear.2.1 mX0_clear.2.1 ∈ zTb := zTb_k zTc1 (List.mem_of_getElem? (i := 135) rfl) rfl
theorem ziX0_take : Cond.instanceMethod mX0_take.2.1 ∈ zTb := zTb_k zTc3 (List.mem_of_getElem? (i := 214) rfl) rfl
theorem zqX0_take : Cond.selects mX0_take.2.1.cls mX0_take.2.1 mX0_take.2.1 ∈ zTb := zTb_k zTc3 (List.mem_of_getElem? (i := 215) rfl) rfl
theorem ziX0_tellThing : Cond.instanceMethod mX0_tellThing.2.1 ∈ zTb := zTb_k zTc3 (List.mem_of_getElem? (i := 149) rfl) rfl
theorem zqX0_tellThing : Cond.selects mX0_tellThing.2.1.cls mX0_tellThing.2.1 mX0_tellThing.2.1 ∈ zTb := zTb_k zTc3 (List.mem_of_getElem? (i := 150) rfl) rfl
theorem ziX0_has : Cond.instanceMethod mX0_has.2.1 ∈ zTb := zTb_k zTc3 (List.mem_of_getElem? (i := 141) rfl) rfl
theorem zqX0_has : Cond.selects mX0_has.2.1.cls mX0_has.2.1 mX0_has.2.1 ∈ zTb := zTb_k zTc3 (List.mem_of_getElem? (i := 142) rfl) rfl
theorem ziX0_hasAll : Cond.instanceMethod mX0_hasAll.2.1 ∈ zTb := zTb_k zTc4 (List.mem_of_getElem? (i := 43) rfl) rfl
theorem zqX0_hasAll : Cond.selects mX0_hasAll.2.1.cls mX0_hasAll.2.1 mX0_hasAll.2.1 ∈ zTb := zTb_k zTc4 (List.mem_of_getElem? (i := 44) rfl) rfl
theorem ziX0_firstOwed : Cond.instanceMethod mX0_firstOwed.2.1 ∈ zTb := zTb_k zTc4 (List.mem_of_getElem? (i := 35) rfl) rfl
theorem zqX0_firstOwed : Cond.selects mX0_firstOwed.2.1.cls mX0_firstOwed.2.1 mX0_firstOwed.2.1 ∈ zTb := zTb_k zTc4 (List.mem_of_getElem? (i := 36) rfl) rfl
theorem ziX0_isLost : Cond.instanceMethod mX0_isLost.2.1 ∈ zTb := zTb_k zTc4 (List.mem_of_getElem? (i := 124) rfl) rfl
theorem zqX0_isLost : Cond.selects mX0_isLost.2.1.cls mX0_isLost.2.1 mX0_isLost.2.1 ∈ zTb := zTb_k zTc4 (List.mem_of_getElem? (i := 125) rfl) rfl
theorem ziX0_lostBy : Cond.instanceMethod mX0_lostBy.2.1 ∈ zTb := zTb_k zTc4 (List.mem_of_getElem? (i := 120) rfl) rfl
theorem zqX0_lostBy : Cond.selects mX0_lostBy.2.1.cls mX0_lostBy.2.1 mX0_lostBy.2.1 ∈ zTb := zTb_k zTc4 (List.mem_of_getElem? (i := 121) rfl) rfl
theorem ziX0_earnings : Cond.instanceMethod mX0_earnings.2.1 ∈ zTb := zTb_k zTc4 (List.mem_of_getElem? (i := 47) rfl) rfl
theorem zqX0_earnings : Cond.selects mX0_earnings.2.1.cls mX0_earnings.2.1 mX0_earnings.2.1 ∈ zTb := zTb_k zTc4 (List.mem_of_getElem? (i := 48) rfl) rfl
theorem ziX0_needing : Cond.instanceMethod mX0_needing.2.1 ∈ zTb := zTb_k zTc4 (List.mem_of_getElem? (i := 83) rfl) rfl
theorem zqX0_needing : Cond.selects mX0_needing.2.1.cls mX0_needing.2.1 mX0_needing.2.1 ∈ zTb := zTb_k zTc4 (List.mem_of_getElem? (i := 84) rfl) rfl
theorem ziX0_cousinLendsIn : Cond.instanceMethod mX0_cousinLendsIn.2.1 ∈ zTb := zTb_k zTc4 (List.mem_of_getElem? (i := 172) rfl) rfl
theorem zqX0_cousinLendsIn : Cond.selects mX0_cousinLendsIn.2.1.cls mX0_cousinLendsIn.2.1 mX0_cousinLendsIn.2.1 ∈ zTb := zTb_k zTc4 (List.mem_of_getElem? (i := 173) rfl) rfl
theorem ziX1_init : Cond.instanceMethod mX1_init.2.1 ∈ zTb := zTb_k zTc1 (List.mem_of_getElem? (i := 98) rfl) rfl
theorem ziX1_take : Cond.instanceMethod mX1_take.2.1 ∈ zTb := zTb_k zTc3 (List.mem_of_getElem? (i := 221) rfl) rfl
theorem zqX1_take : Cond.selects mX1_take.2.1.cls mX1_take.2.1 mX1_take.2.1 ∈ zTb := zTb_k zTc3 (List.mem_of_getElem? (i := 222) rfl) rfl
theorem ziX1_add : Cond.instanceMethod mX1_add.2.1 ∈ zTb := zTb_k zTc3 (List.mem_of_getElem? (i := 198) rfl) rfl
theorem zqX1_add : Cond.selects mX1_add.2.1.cls mX1_add.2.1 mX1_add.2.1 ∈ zTb := zTb_k zTc3 (List.mem_of_getElem? (i := 199) rfl) rfl
theorem ziX1_holding : Cond.instanceMethod mX1_holding.2.1 ∈ zTb := zTb_k zTc4 (List.mem_of_getElem? (i := 56) rfl) rfl
theorem zqX1_holding : Cond.selects mX1_holding.2.1.cls mX1_holding.2.1 mX1_holding.2.1 ∈ zTb := zTb_k zTc4 (List.mem_of_getElem? (i := 57) rfl) rfl
theorem ziX1_together : Cond.instanceMethod mX1_together.2.1 ∈ zTb := zTb_k zTc4 (List.mem_of_getElem? (i := 79) rfl) rfl
theorem zqX1_together : Cond.selects mX1_together.2.1.cls mX1_together.2.1 mX1_together.2.1 ∈ zTb := zTb_k zTc4 (List.mem_of_getElem? (i := 80) rfl) rfl
theorem ziX2_init : Cond.instanceMethod mX2_init.2.1 ∈ zTb := zTb_k zTc1 (List.mem_of_getElem? (i := 119) rfl) rfl
theorem ziX2_clear : Cond.instanceMethod mX2_clear.2.1 ∈ zTb := zTb_k zTc1 (List.mem_of_getElem? (i := 138) rfl) rfl
theorem zqX2_clear : Cond.selects mX2_clear.2.1.cls mX2_clear.2.1 mX2_clear.2.1 ∈ zTb := zTb_k zTc1 (List.mem_of_getElem? (i := 139) rfl) rfl
theorem ziX2_take : Cond.instanceMethod mX2_take.2.1 ∈ zTb := zTb_k zTc3 (List.mem_of_getElem? (i := 226) rfl) rfl
theorem zqX2_take : Cond.selects mX2_take.2.1.cls mX2_take.2.1 mX2_take.2.1 ∈ zTb := zTb_k zTc3 (List.mem_of_getElem? (i := 227) rfl) rfl
theorem ziX2_add : Cond.instanceMethod mX2_add.2.1 ∈ zTb := zTb_k zTc3 (List.mem_of_getElem? (i := 189) rfl) rfl
theorem zqX2_add : Cond.selects mX2_add.2.1.cls mX2_add.2.1 mX2_add.2.1 ∈ zTb := zTb_k zTc3 (List.mem_of_getElem? (i := 190) rfl) rfl
theorem ziX2_kindAt : Cond.instanceMethod mX2_kindAt.2.1 ∈ zTb := zTb_k zTc4 (List.mem_of_getElem? (i := 64) rfl) rfl
theorem zqX2_kindAt : Cond.selects mX2_kindAt.2.1.cls mX2_kindAt.2.1 mX2_kindAt.2.1 ∈ zTb := zTb_k zTc4 (List.mem_of_getElem? (i := 65) rfl) rfl
theorem ziX2_numberAt : Cond.instanceMethod mX2_numberAt.2.1 ∈ zTb := zTb_k zTc4 (List.mem_of_getElem? (i := 68) rfl) rfl
theorem zqX2_numberAt : Cond.selects mX2_numberAt.2.1.cls mX2_numberAt.2.1 mX2_numberAt.2.1 ∈ zTb := zTb_k zTc4 (List.mem_of_getElem? (i := 69) rfl) rfl
theorem ziX2_asks : Cond.instanceMethod mX2_asks.2.1 ∈ zTb := zTb_k zTc4 (List.mem_of_getElem? (i := 214) rfl) rfl
theorem zqX2_asks : Cond.selects mX2_asks.2.1.cls mX2_asks.2.1 mX2_asks.2.1 ∈ zTb := zTb_k zTc4 (List.mem_of_getElem? (i := 215) rfl) rfl
theorem ziX3_init : Cond.instanceMethod mX3_init.2.1 ∈ zTb := zTb_k zTc2 (List.mem_of_getElem? (i := 198) rfl) rfl
theorem ziX3_work : Cond.instanceMethod mX3_work.2.1 ∈ zTb := zTb_k zTc5 (List.mem_of_getElem? (i := 169) rfl) rfl
theorem zqX3_work : Cond.selects mX3_work.2.1.cls mX3_work.2.1 mX3_work.2.1 ∈ zTb := zTb_k zTc5 (List.mem_of_getElem? (i := 170) rfl) rfl
theorem ziX4_init : Cond.instanceMethod mX4_init.2.1 ∈ zTb := zTb_k zTc2 (List.mem_of_getElem? (i := 71) rfl) rfl
theorem ziX4_begin : Cond.instanceMethod mX4_begin.2.1 ∈ zTb := zTb_k zTc4 (List.mem_of_getElem? (i := 112) rfl) rfl
theorem zqX4_begin : Cond.selects mX4_begin.2.1.cls mX4_begin.2.1 mX4_begin.2.1 ∈ zTb := zTb_k zTc4 (List.mem_of_getElem? (i := 113) rfl) rfl
theorem ziX4_isWell : Cond.instanceMethod mX4_isWell.2.1 ∈ zTb := zTb_k zTc4 (List.mem_of_getElem? (i := 128) rfl) rfl
theorem zqX4_isWell : Cond.selects mX4_isWell.2.1.cls mX4_isWell.2.1 mX4_isWell.2.1 ∈ zTb := zTb_k zTc4 (List.mem_of_getElem? (i := 129) rfl) rfl
theorem ziX4_liveByRow : Cond.instanceMethod mX4_liveByRow.2.1 ∈ zTb := zTb_k zTc4 (List.mem_of_getElem? (i := 108) rfl) rfl
theorem zqX4_liveByRow : Cond.selects mX4_liveByRow.2.1.cls mX4_liveByRow.2.1 mX4_liveByRow.2.1 ∈ zTb := zTb_k zTc4 (List.mem_of_getElem? (i := 109) rfl) rfl
theorem ziX4_liveByRule : Cond.instanceMethod mX4_liveByRule.2.1 ∈ zTb := zTb_k zTc5 (List.mem_of_getElem? (i := 144) rfl) rfl
theorem zqX4_liveByRule : Cond.selects mX4_liveByRule.2.1.cls mX4_liveByRule.2.1 mX4_liveByRule.2.1 ∈ zTb := zTb_k zTc5 (List.mem_of_getElem? (i := 145) rfl) rfl
theorem ziX4_startWeek : Cond.instanceMethod mX4_startWeek.2.1 ∈ zTb := zTb_k zTc4 (List.mem_of_getElem? (i := 117) rfl) rfl
theorem zqX4_startWeek : Cond.selects mX4_startWeek.2.1.cls mX4_startWeek.2.1 mX4_startWeek.2.1 ∈ zTb := zTb_k zTc0 (List.mem_of_getElem? (i := 26) rfl) rfl
theorem ziX4_endWeek : Cond.instanceMethod mX4_endWeek.2.1 ∈ zTb := zTb_k zTc4 (List.mem_of_getElem? (i := 177) rfl) rfl
theorem zqX4_endWeek : Cond.selects mX4_endWeek.2.1.cls mX4_endWeek.2.1 mX4_endWeek.2.1 ∈ zTb := zTb_k zTc0 (List.mem_of_getElem? (i := 37) rfl) rfl
theorem ziX4_thingsIn : Cond.instanceMethod mX4_thingsIn.2.1 ∈ zTb := zTb_k zTc4 (List.mem_of_getElem? (i := 149) rfl) rfl
theorem zqX4_thingsIn : Cond.selects mX4_thingsIn.2.1.cls mX4_thingsIn.2.1 mX4_thingsIn.2.1 ∈ zTb := zTb_k zTc0 (List.mem_of_getElem? (i := 31) rfl) rfl
theorem ziX4_isIn : Cond.instanceMethod mX4_isIn.2.1 ∈ zTb := zTb_k zTc4 (List.mem_of_getElem? (i := 145) rfl) rfl
theorem zqX4_isIn : Cond.selects mX4_isIn.2.1.cls mX4_isIn.2.1 mX4_isIn.2.1 ∈ zTb := zTb_k zTc0 (List.mem_of_getElem? (i := 30) rfl) rfl
theorem ziX4_owedNow : Cond.instanceMethod mX4_owedNow.2.1 ∈ zTb := zTb_k zTc4 (List.mem_of_getElem? (i := 153) rfl) rfl
theorem zqX4_owedNow : Cond.selects mX4_owedNow.2.1.cls mX4_owedNow.2.1 mX4_owedNow.2.1 ∈ zTb := zTb_k zTc0 (List.mem_of_getElem? (i := 32) rfl) rfl
theorem ziX4_doActs : Cond.instanceMethod mX4_doActs.2.1 ∈ zTb := zTb_k zTc4 (List.mem_of_getElem? (i := 133) rfl) rfl
theorem zqX4_doActs : Cond.selects mX4_doActs.2.1.cls mX4_doActs.2.1 mX4_doActs.2.1 ∈ zTb := zTb_k zTc0 (List.mem_of_getElem? (i := 27) rfl) rfl
theorem ziX4_doAct : Cond.instanceMethod mX4_doAct.2.1 ∈ zTb := zTb_k zTc4 (List.mem_of_getElem? (i := 137) rfl) rfl
theorem zqX4_doAct : Cond.selects mX4_doAct.2.1.cls mX4_doAct.2.1 mX4_doAct.2.1 ∈ zTb := zTb_k zTc0 (List.mem_of_getElem? (i := 28) rfl) rfl
theorem ziX4_fetchOne : Cond.instanceMethod mX4_fetchOne.2.1 ∈ zTb := zTb_k zTc4 (List.mem_of_getElem? (i := 141) rfl) rfl
theorem zqX4_fetchOne : Cond.selects mX4_fetchOne.2.1.cls mX4_fetchOne.2.1 mX4_fetchOne.2.1 ∈ zTb := zTb_k zTc0 (List.mem_of_getElem? (i := 29) rfl) rfl
theorem ziX4_putOne : Cond.instanceMethod mX4_putOne.2.1 ∈ zTb := zTb_k zTc4 (List.mem_of_getElem? (i := 157) rfl) rfl
theorem zqX4_putOne : Cond.selects mX4_putOne.2.1.cls mX4_putOne.2.1 mX4_putOne.2.1 ∈ zTb := zTb_k zTc0 (List.mem_of_getElem? (i := 33) rfl) rfl
theorem ziX4_sellOne : Cond.instanceMethod mX4_sellOne.2.1 ∈ zTb := zTb_k zTc4 (List.mem_of_getElem? (i := 161) rfl) rfl
theorem zqX4_sellOne : Cond.selects mX4_sellOne.2.1.cls mX4_sellOne.2.1 mX4_sellOne.2.1 ∈ zTb := zTb_k zTc0 (List.mem_of_getElem? (i := 34) rfl) rfl
theorem ziX4_halveOne : Cond.instanceMethod mX4_halveOne.2.1 ∈ zTb := zTb_k zTc4 (List.mem_of_getElem? (i := 165) rfl) rfl
theorem zqX4_halveOne : Cond.selects mX4_halveOne.2.1.cls mX4_halveOne.2.1 mX4_halveOne.2.1 ∈ zTb := zTb_k zTc0 (List.mem_of_getElem? (i := 35) rfl) rfl
theorem ziX4_borrowOnce : Cond.instanceMethod mX4_borrowOnce.2.1 ∈ zTb := zTb_k zTc4 (List.mem_of_getElem? (i := 169) rfl) rfl
theorem zqX4_borrowOnce : Cond.selects mX4_borrowOnce.2.1.cls mX4_borrowOnce.2.1 mX4_borrowOnce.2.1 ∈ zTb := zTb_k zTc0 (List.mem_of_getElem? (i := 36) rfl) rfl
theorem ziX4_likedMost : Cond.instanceMethod mX4_likedMost.2.1 ∈ zTb := zTb_k zTc5 (List.mem_of_getElem? (i := 149) rfl) rfl
theorem zqX4_likedMost : Cond.selects mX4_likedMost.2.1.cls mX4_likedMost.2.1 mX4_likedMost.2.1 ∈ zTb := zTb_k zTc0 (List.mem_of_getElem? (i := 53) rfl) rfl
theorem ziX4_liking : Cond.instanceMethod mX4_liking.2.1 ∈ zTb := zTb_k zTc5 (List.mem_of_getElem? (i := 128) rfl) rfl
theorem zqX4_liking : Cond.selects mX4_liking.2.1.cls mX4_liking.2.1 mX4_liking.2.1 ∈ zTb := zTb_k zTc5 (List.mem_of_getElem? (i := 129) rfl) rfl
theorem ziX5_init : Cond.instanceMethod mX5_init.2.1 ∈ zTb := zTb_k zTc2 (List.mem_of_getElem? (i := 140) rfl) rfl
theorem ziX5_prepare : Cond.instanceMethod mX5_prepare.2.1 ∈ zTb := zTb_k zTc4 (List.mem_of_getElem? (i := 194) rfl) rfl
theorem zqX5_prepare : Cond.selects mX5_prepare.2.1.cls mX5_prepare.2.1 mX5_prepare.2.1 ∈ zTb := zTb_k zTc4 (List.mem_of_getElem? (i := 195) rfl) rfl
theorem ziX5_countStates : Cond.instanceMethod mX5_countStates.2.1 ∈ zTb := zTb_k zTc4 (List.mem_of_getElem? (i := 232) rfl) rfl
theorem zqX5_countStates : Cond.selects mX5_countStates.2.1.cls mX5_countStates.2.1 mX5_countStates.2.1 ∈ zTb := zTb_k zTc0 (List.mem_of_getElem? (i := 43) rfl) rfl
theorem ziX5_lastSet : Cond.instanceMethod mX5_lastSet.2.1 ∈ zTb := zTb_k zTc4 (List.mem_of_getElem? (i := 239) rfl) rfl
theorem zqX5_lastSet : Cond.selects mX5_lastSet.2.1.cls mX5_lastSet.2.1 mX5_lastSet.2.1 ∈ zTb := zTb_k zTc0 (List.mem_of_getElem? (i := 44) rfl) rfl
theorem ziX5_fillGains : Cond.instanceMethod mX5_fillGains.2.1 ∈ zTb := zTb_k zTc4 (List.mem_of_getElem? (i := 199) rfl) rfl
theorem zqX5_fillGains : Cond.selects mX5_fillGains.2.1.cls mX5_fillGains.2.1 mX5_fillGains.2.1 ∈ zTb := zTb_k zTc0 (List.mem_of_getElem? (i := 39) rfl) rfl
theorem ziX5_fillHolding : Cond.instanceMethod mX5_fillHolding.2.1 ∈ zTb := zTb_k zTc4 (List.mem_of_getElem? (i := 203) rfl) rfl
theorem zqX5_fillHolding : Cond.selects mX5_fillHolding.2.1.cls mX5_fillHolding.2.1 mX5_fillHolding.2.1 ∈ zTb := zTb_k zTc0 (List.mem_of_getElem? (i := 40) rfl) rfl
theorem zsX5_start : Cond.static mX5_start.2.1 ∈ zTb := zTb_k zTc4 (List.mem_of_getElem? (i := 218) rfl) rfl
theorem ziX5_pass : Cond.instanceMethod mX5_pass.2.1 ∈ zTb := zTb_k zTc4 (List.mem_of_getElem? (i := 222) rfl) rfl
theorem zqX5_pass : Cond.selects mX5_pass.2.1.cls mX5_pass.2.1 mX5_pass.2.1 ∈ zTb := zTb_k zTc0 (List.mem_of_getElem? (i := 41) rfl) rfl
theorem ziX5_fetchAnywhere : Cond.instanceMethod mX5_fetchAnywhere.2.1 ∈ zTb := zTb_k zTc4 (List.mem_of_getElem? (i := 227) rfl) rfl
theorem zqX5_fetchAnywhere : Cond.selects mX5_fetchAnywhere.2.1.cls mX5_fetchAnywhere.2.1 mX5_fetchAnywhere.2.1 ∈ zTb := zTb_k zTc0 (List.mem_of_getElem? (i := 42) rfl) rfl
theorem zsX5_shift : Cond.static mX5_shift.2.1 ∈ zTb := zTb_k zTc5 (List.mem_of_getElem? (i := 83) rfl) rfl
theorem zsX5_mostIn : Cond.static mX5_mostIn.2.1 ∈ zTb := zTb_k zTc4 (List.mem_of_getElem? (i := 235) rfl) rfl
theorem ziX5_coinAt : Cond.instanceMethod mX5_coinAt.2.1 ∈ zTb := zTb_k zTc5 (List.mem_of_getElem? (i := 14) rfl) rfl
theorem zqX5_coinAt : Cond.selects mX5_coinAt.2.1.cls mX5_coinAt.2.1 mX5_coinAt.2.1 ∈ zTb := zTb_k zTc0 (List.mem_of_getElem? (i := 47) rfl) rfl
theorem ziX5_tracePlan : Cond.instanceMethod mX5_tracePlan.2.1 ∈ zTb := zTb_k zTc5 (List.mem_of_getElem? (i := 3) rfl) rfl
theorem zqX5_tracePlan : Cond.selects mX5_tracePlan.2.1.cls mX5_tracePlan.2.1 mX5_tracePlan.2.1 ∈ zTb := zTb_k zTc0 (List.mem_of_getElem? (i := 45) rfl) rfl
theorem ziX5_setAhead : Cond.instanceMethod mX5_setAhead.2.1 ∈ zTb := zTb_k zTc5 (List.mem_of_getElem? (i := 10) rfl) rfl
theorem zqX5_setAhead : Cond.selects mX5_setAhead.2.1.cls mX5_setAhead.2.1 mX5_setAhead.2.1 ∈ zTb := zTb_k zTc0 (List.mem_of_getElem? (i := 46) rfl) rfl
theorem ziX5_costOf : Cond.instanceMethod mX5_costOf.2.1 ∈ zTb := zTb_k zTc5 (List.mem_of_getElem? (i := 18) rfl) rfl
theorem zqX5_costOf : Cond.selects mX5_costOf.2.1.cls mX5_costOf.2.1 mX5_costOf.2.1 ∈ zTb := zTb_k zTc0 (List.mem_of_getElem? (i := 48) rfl) rfl
theorem ziX5_firstAllHome : Cond.instanceMethod mX5_firstAllHome.2.1 ∈ zTb := zTb_k zTc5 (List.mem_of_getElem? (i := 21) rfl) rfl
theorem zqX5_firstAllHome : Cond.selects mX5_firstAllHome.2.1.cls mX5_firstAllHome.2.1 mX5_firstAllHome.2.1 ∈ zTb := zTb_k zTc5 (List.mem_of_getElem? (i := 22) rfl) rfl
theorem ziX5_richest : Cond.instanceMethod mX5_richest.2.1 ∈ zTb := zTb_k zTc5 (List.mem_of_getElem? (i := 29) rfl) rfl
theorem zqX5_richest : Cond.selects mX5_richest.2.1.cls mX5_richest.2.1 mX5_richest.2.1 ∈ zTb := zTb_k zTc5 (List.mem_of_getElem? (i := 30) rfl) rfl
theorem ziX5_worthOf : Cond.instanceMethod mX5_worthOf.2.1 ∈ zTb := zTb_k zTc5 (List.mem_of_getElem? (i := 34) rfl) rfl
theorem zqX5_worthOf : Cond.selects mX5_worthOf.2.1.cls mX5_worthOf.2.1 mX5_worthOf.2.1 ∈ zTb := zTb_k zTc0 (List.mem_of_getElem? (i := 49) rfl) rfl
theorem ziX5_gainsWithout : Cond.instanceMethod mX5_gainsWithout.2.1 ∈ zTb := zTb_k zTc5 (List.mem_of_getElem? (i := 50) rfl) rfl
theorem zqX5_gainsWithout : Cond.selects mX5_gainsWithout.2.1.cls mX5_gainsWithout.2.1 mX5_gainsWithout.2.1 ∈ zTb := zTb_k zTc0 (List.mem_of_getElem? (i := 50) rfl) rfl
theorem ziX5_hanging : Cond.instanceMethod mX5_hanging.2.1 ∈ zTb := zTb_k zTc5 (List.mem_of_getElem? (i := 45) rfl) rfl
theorem zqX5_hanging : Cond.selects mX5_hanging.2.1.cls mX5_hanging.2.1 mX5_hanging.2.1 ∈ zTb := zTb_k zTc5 (List.mem_of_getElem? (i := 46) rfl) rfl
theorem ziX5_keyThing : Cond.instanceMethod mX5_keyThing.2.1 ∈ zTb := zTb_k zTc5 (List.mem_of_getElem? (i := 58) rfl) rfl
theorem zqX5_keyThing : Cond.selects mX5_keyThing.2.1.cls mX5_keyThing.2.1 mX5_keyThing.2.1 ∈ zTb := zTb_k zTc5 (List.mem_of_getElem? (i := 59) rfl) rfl
theorem ziX5_bestNeverPut : Cond.instanceMethod mX5_bestNeverPut.2.1 ∈ zTb := zTb_k zTc5 (List.mem_of_getElem? (i := 69) rfl) rfl
theorem zqX5_bestNeverPut : Cond.selects mX5_bestNeverPut.2.1.cls mX5_bestNeverPut.2.1 mX5_bestNeverPut.2.1 ∈ zTb := zTb_k zTc5 (List.mem_of_getElem? (i := 70) rfl) rfl
theorem ziX5_bestBorrowing : Cond.instanceMethod mX5_bestBorrowing.2.1 ∈ zTb := zTb_k zTc5 (List.mem_of_getElem? (i := 78) rfl) rfl
theorem zqX5_bestBorrowing : Cond.selects mX5_bestBorrowing.2.1.cls mX5_bestBorrowing.2.1 mX5_bestBorrowing.2.1 ∈ zTb := zTb_k zTc5 (List.mem_of_getElem? (i := 79) rfl) rfl
theorem ziX5_borrowingWeek : Cond.instanceMethod mX5_borrowingWeek.2.1 ∈ zTb := zTb_k zTc5 (List.mem_of_getElem? (i := 93) rfl) rfl
theorem zqX5_borrowingWeek : Cond.selects mX5_borrowingWeek.2.1.cls mX5_borrowingWeek.2.1 mX5_borrowingWeek.2.1 ∈ zTb := zTb_k zTc5 (List.mem_of_getElem? (i := 94) rfl) rfl
theorem ziX5_bestSelling : Cond.instanceMethod mX5_bestSelling.2.1 ∈ zTb := zTb_k zTc5 (List.mem_of_getElem? (i := 102) rfl) rfl
theorem zqX5_bestSelling : Cond.selects mX5_bestSelling.2.1.cls mX5_bestSelling.2.1 mX5_bestSelling.2.1 ∈ zTb := zTb_k zTc5 (List.mem_of_getElem? (i := 103) rfl) rfl
theorem ziX5_bestSellingFromLine : Cond.instanceMethod mX5_bestSellingFromLine.2.1 ∈ zTb := zTb_k zTc5 (List.mem_of_getElem? (i := 107) rfl) rfl
theorem zqX5_bestSellingFromLine : Cond.selects mX5_bestSellingFromLine.2.1.cls mX5_bestSellingFromLine.2.1 mX5_bestSellingFromLine.2.1 ∈ zTb := zTb_k zTc0 (List.mem_of_getElem? (i := 51) rfl) rfl
theorem ziX5_sellingWeek : Cond.instanceMethod mX5_sellingWeek.2.1 ∈ zTb := zTb_k zTc5 (List.mem_of_getElem? (i := 114) rfl) rfl
theorem zqX5_sellingWeek : Cond.selects mX5_sellingWeek.2.1.cls mX5_sellingWeek.2.1 mX5_sellingWeek.2.1 ∈ zTb := zTb_k zTc5 (List.mem_of_getElem? (i := 115) rfl) rfl
theorem ziX6_init : Cond.instanceMethod mX6_init.2.1 ∈ zTb := zTb_k zTc1 (List.mem_of_getElem? (i := 32) rfl) rfl
theorem ziX6_open : Cond.instanceMethod mX6_open.2.1 ∈ zTb := zTb_k zTc3 (List.mem_of_getElem? (i := 38) rfl) rfl
theorem zqX6_open : Cond.selects mX6_open.2.1.cls mX6_open.2.1 mX6_open.2.1 ∈ zTb := zTb_k zTc0 (List.mem_of_getElem? (i := 1) rfl) rfl
theorem ziX6_next : Cond.instanceMethod mX6_next.2.1 ∈ zTb := zTb_k zTc3 (List.mem_of_getElem? (i := 118) rfl) rfl
theorem zqX6_next : Cond.selects mX6_next.2.1.cls mX6_next.2.1 mX6_next.2.1 ∈ zTb := zTb_k zTc0 (List.mem_of_getElem? (i := 4) rfl) rfl
theorem ziX6_readBook : Cond.instanceMethod mX6_readBook.2.1 ∈ zTb := zTb_k zTc3 (List.mem_of_getElem? (i := 32) rfl) rfl
theorem zqX6_readBook : Cond.selects mX6_readBook.2.1.cls mX6_readBook.2.1 mX6_readBook.2.1 ∈ zTb := zTb_k zTc3 (List.mem_of_getElem? (i := 33) rfl) rfl
theorem ziX6_readRule : Cond.instanceMethod mX6_readRule.2.1 ∈ zTb := zTb_k zTc4 (List.mem_of_getElem? (i := 2) rfl) rfl
theorem zqX6_readRule : Cond.selects mX6_readRule.2.1.cls mX6_readRule.2.1 mX6_readRule.2.1 ∈ zTb := zTb_k zTc4 (List.mem_of_getElem? (i := 3) rfl) rfl
theorem ziX6_startClause : Cond.instanceMethod mX6_startClause.2.1 ∈ zTb := zTb_k zTc3 (List.mem_of_getElem? (i := 122) rfl) rfl
theorem zqX6_startClause : Cond.selects mX6_startClause.2.1.cls mX6_startClause.2.1 mX6_startClause.2.1 ∈ zTb := zTb_k zTc0 (List.mem_of_getElem? (i := 5) rfl) rfl
theorem ziX6_isClause : Cond.instanceMethod mX6_isClause.2.1 ∈ zTb := zTb_k zTc3 (List.mem_of_getElem? (i := 126) rfl) rfl
theorem zqX6_isClause : Cond.selects mX6_isClause.2.1.cls mX6_isClause.2.1 mX6_isClause.2.1 ∈ zTb := zTb_k zTc0 (List.mem_of_getElem? (i := 6) rfl) rfl
theorem ziX6_isOnceOnly : Cond.instanceMethod mX6_isOnceOnly.2.1 ∈ zTb := zTb_k zTc3 (List.mem_of_getElem? (i := 130) rfl) rfl
theorem zqX6_isOnceOnly : Cond.selects mX6_isOnceOnly.2.1.cls mX6_isOnceOnly.2.1 mX6_isOnceOnly.2.1 ∈ zTb := zTb_k zTc0 (List.mem_of_getElem? (i := 7) rfl) rfl
theorem ziX6_isAtEnd : Cond.instanceMethod mX6_isAtEnd.2.1 ∈ zTb := zTb_k zTc3 (List.mem_of_getElem? (i := 211) rfl) rfl
theorem zqX6_isAtEnd : Cond.selects mX6_isAtEnd.2.1.cls mX6_isAtEnd.2.1 mX6_isAtEnd.2.1 ∈ zTb := zTb_k zTc0 (List.mem_of_getElem? (i := 23) rfl) rfl
theorem ziX6_readThing : Cond.instanceMethod mX6_readThing.2.1 ∈ zTb := zTb_k zTc3 (List.mem_of_getElem? (i := 138) rfl) rfl
theorem zqX6_readThing : Cond.selects mX6_readThing.2.1.cls mX6_readThing.2.1 mX6_readThing.2.1 ∈ zTb := zTb_k zTc0 (List.mem_of_getElem? (i := 9) rfl) rfl
theorem ziX6_readExtra : Cond.instanceMethod mX6_readExtra.2.1 ∈ zTb := zTb_k zTc3 (List.mem_of_getElem? (i := 154) rfl) rfl
theorem zqX6_readExtra : Cond.selects mX6_readExtra.2.1.cls mX6_readExtra.2.1 mX6_readExtra.2.1 ∈ zTb := zTb_k zTc0 (List.mem_of_getElem? (i := 11) rfl) rfl
theorem ziX6_readSet : Cond.instanceMethod mX6_readSet.2.1 ∈ zTb := zTb_k zTc3 (List.mem_of_getElem? (i := 158) rfl) rfl
theorem zqX6_readSet : Cond.selects mX6_readSet.2.1.cls mX6_readSet.2.1 mX6_readSet.2.1 ∈ zTb := zTb_k zTc0 (List.mem_of_getElem? (i := 12) rfl) rfl
theorem ziX6_readNeed : Cond.instanceMethod mX6_readNeed.2.1 ∈ zTb := zTb_k zTc3 (List.mem_of_getElem? (i := 203) rfl) rfl
theorem zqX6_readNeed : Cond.selects mX6_readNeed.2.1.cls mX6_readNeed.2.1 mX6_readNeed.2.1 ∈ zTb := zTb_k zTc0 (List.mem_of_getElem? (i := 21) rfl) rfl
theorem ziX6_readCousin : Cond.instanceMethod mX6_readCousin.2.1 ∈ zTb := zTb_k zTc3 (List.mem_of_getElem? (i := 207) rfl) rfl
theorem zqX6_readCousin : Cond.selects mX6_readCousin.2.1.cls mX6_readCousin.2.1 mX6_readCousin.2.1 ∈ zTb := zTb_k zTc0 (List.mem_of_getElem? (i := 22) rfl) rfl
theorem ziX6_readLike : Cond.instanceMethod mX6_readLike.2.1 ∈ zTb := zTb_k zTc4 (List.mem_of_getElem? (i := 12) rfl) rfl
theorem zqX6_readLike : Cond.selects mX6_readLike.2.1.cls mX6_readLike.2.1 mX6_readLike.2.1 ∈ zTb := zTb_k zTc0 (List.mem_of_getElem? (i := 24) rfl) rfl
theorem ziX6_readIf : Cond.instanceMethod mX6_readIf.2.1 ∈ zTb := zTb_k zTc3 (List.mem_of_getElem? (i := 166) rfl) rfl
theorem zqX6_readIf : Cond.selects mX6_readIf.2.1.cls mX6_readIf.2.1 mX6_readIf.2.1 ∈ zTb := zTb_k zTc0 (List.mem_of_getElem? (i := 14) rfl) rfl
theorem ziX6_readTest : Cond.instanceMethod mX6_readTest.2.1 ∈ zTb := zTb_k zTc3 (List.mem_of_getElem? (i := 170) rfl) rfl
theorem zqX6_readTest : Cond.selects mX6_readTest.2.1.cls mX6_readTest.2.1 mX6_readTest.2.1 ∈ zTb := zTb_k zTc0 (List.mem_of_getElem? (i := 15) rfl) rfl
theorem ziX6_readFact : Cond.instanceMethod mX6_readFact.2.1 ∈ zTb := zTb_k zTc3 (List.mem_of_getElem? (i := 174) rfl) rfl
theorem zqX6_readFact : Cond.selects mX6_readFact.2.1.cls mX6_readFact.2.1 mX6_readFact.2.1 ∈ zTb := zTb_k zTc0 (List.mem_of_getElem? (i := 16) rfl) rfl
theorem ziX6_readSign : Cond.instanceMethod mX6_readSign.2.1 ∈ zTb := zTb_k zTc3 (List.mem_of_getElem? (i := 195) rfl) rfl
theorem zqX6_readSign : Cond.selects mX6_readSign.2.1.cls mX6_readSign.2.1 mX6_readSign.2.1 ∈ zTb := zTb_k zTc0 (List.mem_of_getElem? (i := 20) rfl) rfl
theorem ziX6_readSum : Cond.instanceMethod mX6_readSum.2.1 ∈ zTb := zTb_k zTc3 (List.mem_of_getElem? (i := 178) rfl) rfl
theorem zqX6_readSum : Cond.selects mX6_readSum.2.1.cls mX6_readSum.2.1 mX6_readSum.2.1 ∈ zTb := zTb_k zTc0 (List.mem_of_getElem? (i := 17) rfl) rfl
theorem ziX6_readValue : Cond.instanceMethod mX6_readValue.2.1 ∈ zTb := zTb_k zTc3 (List.mem_of_getElem? (i := 182) rfl) rfl
theorem zqX6_readValue : Cond.selects mX6_readValue.2.1.cls mX6_readValue.2.1 mX6_readValue.2.1 ∈ zTb := zTb_k zTc0 (List.mem_of_getElem? (i := 18) rfl) rfl
theorem ziX6_isValueWord : Cond.instanceMethod mX6_isValueWord.2.1 ∈ zTb := zTb_k zTc3 (List.mem_of_getElem? (i := 186) rfl) rfl
theorem zqX6_isValueWord : Cond.selects mX6_isValueWord.2.1.cls mX6_isValueWord.2.1 mX6_isValueWord.2.1 ∈ zTb := zTb_k zTc0 (List.mem_of_getElem? (i := 19) rfl) rfl
theorem ziX6_number : Cond.instanceMethod mX6_number.2.1 ∈ zTb := zTb_k zTc3 (List.mem_of_getElem? (i := 146) rfl) rfl
theorem zqX6_number : Cond.selects mX6_number.2.1.cls mX6_number.2.1 mX6_number.2.1 ∈ zTb := zTb_k zTc0 (List.mem_of_getElem? (i := 10) rfl) rfl
theorem ziX6_expect : Cond.instanceMethod mX6_expect.2.1 ∈ zTb := zTb_k zTc3 (List.mem_of_getElem? (i := 162) rfl) rfl
theorem zqX6_expect : Cond.selects mX6_expect.2.1.cls mX6_expect.2.1 mX6_expect.2.1 ∈ zTb := zTb_k zTc0 (List.mem_of_getElem? (i := 13) rfl) rfl
theorem ziX6_fail : Cond.instanceMethod mX6_fail.2.1 ∈ zTb := zTb_k zTc3 (List.mem_of_getElem? (i := 134) rfl) rfl
theorem zqX6_fail : Cond.selects mX6_fail.2.1.cls mX6_fail.2.1 mX6_fail.2.1 ∈ zTb := zTb_k zTc0 (List.mem_of_getElem? (i := 8) rfl) rfl
theorem ziX7_init : Cond.instanceMethod mX7_init.2.1 ∈ zTb := zTb_k zTc1 (List.mem_of_getElem? (i := 239) rfl) rfl
theorem ziX7_take : Cond.instanceMethod mX7_take.2.1 ∈ zTb := zTb_k zTc5 (List.mem_of_getElem? (i := 210) rfl) rfl
theorem zqX7_take : Cond.selects mX7_take.2.1.cls mX7_take.2.1 mX7_take.2.1 ∈ zTb := zTb_k zTc5 (List.mem_of_getElem? (i := 211) rfl) rfl
theorem ziX7_canTake : Cond.instanceMethod mX7_canTake.2.1 ∈ zTb := zTb_k zTc4 (List.mem_of_getElem? (i := 91) rfl) rfl
theorem zqX7_canTake : Cond.selects mX7_canTake.2.1.cls mX7_canTake.2.1 mX7_canTake.2.1 ∈ zTb := zTb_k zTc4 (List.mem_of_getElem? (i := 92) rfl) rfl
theorem ziX7_add : Cond.instanceMethod mX7_add.2.1 ∈ zTb := zTb_k zTc4 (List.mem_of_getElem? (i := 95) rfl) rfl
theorem zqX7_add : Cond.selects mX7_add.2.1.cls mX7_add.2.1 mX7_add.2.1 ∈ zTb := zTb_k zTc4 (List.mem_of_getElem? (i := 96) rfl) rfl
theorem ziX8_init : Cond.instanceMethod mX8_init.2.1 ∈ zTb := zTb_k zTc2 (List.mem_of_getElem? (i := 24) rfl) rfl
theorem ziX8_clear : Cond.instanceMethod mX8_clear.2.1 ∈ zTb := zTb_k zTc4 (List.mem_of_getElem? (i := 6) rfl) rfl
theorem zqX8_clear : Cond.selects mX8_clear.2.1.cls mX8_clear.2.1 mX8_clear.2.1 ∈ zTb := zTb_k zTc4 (List.mem_of_getElem? (i := 7) rfl) rfl
theorem ziX8_add : Cond.instanceMethod mX8_add.2.1 ∈ zTb := zTb_k zTc4 (List.mem_of_getElem? (i := 15) rfl) rfl
theorem zqX8_add : Cond.selects mX8_add.2.1.cls mX8_add.2.1 mX8_add.2.1 ∈ zTb := zTb_k zTc4 (List.mem_of_getElem? (i := 16) rfl) rfl
theorem ziX8_valueIn : Cond.instanceMethod mX8_valueIn.2.1 ∈ zTb := zTb_k zTc5 (List.mem_of_getElem? (i := 135) rfl) rfl
theorem zqX8_valueIn : Cond.selects mX8_valueIn.2.1.cls mX8_valueIn.2.1 mX8_valueIn.2.1 ∈ zTb := zTb_k zTc5 (List.mem_of_getElem? (i := 136) rfl) rfl
theorem ziX9_init : Cond.instanceMethod mX9_init.2.1 ∈ zTb := zTb_k zTc2 (List.mem_of_getElem? (i := 54) rfl) rfl
theorem ziX9_place : Cond.instanceMethod mX9_place.2.1 ∈ zTb := zTb_k zTc4 (List.mem_of_getElem? (i := 51) rfl) rfl
theorem zqX9_place : Cond.selects mX9_place.2.1.cls mX9_place.2.1 mX9_place.2.1 ∈ zTb := zTb_k zTc4 (List.mem_of_getElem? (i := 52) rfl) rfl
theorem ziX9_valueAt : Cond.instanceMethod mX9_valueAt.2.1 ∈ zTb := zTb_k zTc4 (List.mem_of_getElem? (i := 60) rfl) rfl
theorem zqX9_valueAt : Cond.selects mX9_valueAt.2.1.cls mX9_valueAt.2.1 mX9_valueAt.2.1 ∈ zTb := zTb_k zTc4 (List.mem_of_getElem? (i := 61) rfl) rfl
theorem ziX9_wordValue : Cond.instanceMethod mX9_wordValue.2.1 ∈ zTb := zTb_k zTc4 (List.mem_of_getElem? (i := 73) rfl) rfl
theorem zqX9_wordValue : Cond.selects mX9_wordValue.2.1.cls mX9_wordValue.2.1 mX9_wordValue.2.1 ∈ zTb := zTb_k zTc0 (List.mem_of_getElem? (i := 25) rfl) rfl
theorem zsX9_joined : Cond.static mX9_joined.2.1 ∈ zTb := zTb_k zTc4 (List.mem_of_getElem? (i := 76) rfl) rfl
theorem ziX10_init : Cond.instanceMethod mX10_init.2.1 ∈ zTb := zTb_k zTc1 (List.mem_of_getElem? (i := 38) rfl) rfl
theorem ziX10_split : Cond.instanceMethod mX10_split.2.1 ∈ zTb := zTb_k zTc3 (List.mem_of_getElem? (i := 41) rfl) rfl
theorem zqX10_split : Cond.selects mX10_split.2.1.cls mX10_split.2.1 mX10_split.2.1 ∈ zTb := zTb_k zTc3 (List.mem_of_getElem? (i := 42) rfl) rfl
theorem ziX10_add : Cond.instanceMethod mX10_add.2.1 ∈ zTb := zTb_k zTc3 (List.mem_of_getElem? (i := 56) rfl) rfl
theorem zqX10_add : Cond.selects mX10_add.2.1.cls mX10_add.2.1 mX10_add.2.1 ∈ zTb := zTb_k zTc0 (List.mem_of_getElem? (i := 3) rfl) rfl
theorem ziX10_splitOne : Cond.instanceMethod mX10_splitOne.2.1 ∈ zTb := zTb_k zTc3 (List.mem_of_getElem? (i := 46) rfl) rfl
theorem zqX10_splitOne : Cond.selects mX10_splitOne.2.1.cls mX10_splitOne.2.1 mX10_splitOne.2.1 ∈ zTb := zTb_k zTc0 (List.mem_of_getElem? (i := 2) rfl) rfl
theorem zsX10_behindRun : Cond.static mX10_behindRun.2.1 ∈ zTb := zTb_k zTc3 (List.mem_of_getElem? (i := 49) rfl) rfl
theorem zsX10_numberIn : Cond.static mX10_numberIn.2.1 ∈ zTb := zTb_k zTc3 (List.mem_of_getElem? (i := 52) rfl) rfl
theorem zsX10_wordIn : Cond.static mX10_wordIn.2.1 ∈ zTb := zTb_k zTc3 (List.mem_of_getElem? (i := 59) rfl) rfl
theorem zsX10_isSame : Cond.static mX10_isSame.2.1 ∈ zTb := zTb_k zTc3 (List.mem_of_getElem? (i := 111) rfl) rfl
theorem zsX10_signKind : Cond.static mX10_signKind.2.1 ∈ zTb := zTb_k zTc3 (List.mem_of_getElem? (i := 114) rfl) rfl
theorem ziX11_init : Cond.instanceMethod mX11_init.2.1 ∈ zTb := zTb_k zTc1 (List.mem_of_getElem? (i := 24) rfl) rfl
theorem ziX11_feed : Cond.instanceMethod mX11_feed.2.1 ∈ zTb := zTb_k zTc3 (List.mem_of_getElem? (i := 16) rfl) rfl
theorem zqX11_feed : Cond.selects mX11_feed.2.1.cls mX11_feed.2.1 mX11_feed.2.1 ∈ zTb := zTb_k zTc3 (List.mem_of_getElem? (i := 17) rfl) rfl
theorem ziX11_putBytes : Cond.instanceMethod mX11_putBytes.2.1 ∈ zTb := zTb_k zTc3 (List.mem_of_getElem? (i := 21) rfl) rfl
theorem zqX11_putBytes : Cond.selects mX11_putBytes.2.1.cls mX11_putBytes.2.1 mX11_putBytes.2.1 ∈ zTb := zTb_k zTc0 (List.mem_of_getElem? (i := 0) rfl) rfl
theorem ziX11_end : Cond.instanceMethod mX11_end.2.1 ∈ zTb := zTb_k zTc3 (List.mem_of_getElem? (i := 24) rfl) rfl
theorem zqX11_end : Cond.selects mX11_end.2.1.cls mX11_end.2.1 mX11_end.2.1 ∈ zTb := zTb_k zTc3 (List.mem_of_getElem? (i := 25) rfl) rfl
theorem ziX11_book : Cond.instanceMethod mX11_book.2.1 ∈ zTb := zTb_k zTc3 (List.mem_of_getElem? (i := 28) rfl) rfl
theorem zqX11_book : Cond.selects mX11_book.2.1.cls mX11_book.2.1 mX11_book.2.1 ∈ zTb := zTb_k zTc3 (List.mem_of_getElem? (i := 29) rfl) rfl
theorem ziX11_rule : Cond.instanceMethod mX11_rule.2.1 ∈ zTb := zTb_k zTc3 (List.mem_of_getElem? (i := 238) rfl) rfl
theorem zqX11_rule : Cond.selects mX11_rule.2.1.cls mX11_rule.2.1 mX11_rule.2.1 ∈ zTb := zTb_k zTc3 (List.mem_of_getElem? (i := 239) rfl) rfl
theorem ziX11_thing : Cond.instanceMethod mX11_thing.2.1 ∈ zTb := zTb_k zTc4 (List.mem_of_getElem? (i := 19) rfl) rfl
theorem zqX11_thing : Cond.selects mX11_thing.2.1.cls mX11_thing.2.1 mX11_thing.2.1 ∈ zTb := zTb_k zTc4 (List.mem_of_getElem? (i := 20) rfl) rfl
theorem ziX11_count : Cond.instanceMethod mX11_count.2.1 ∈ zTb := zTb_k zTc4 (List.mem_of_getElem? (i := 24) rfl) rfl
theorem zqX11_count : Cond.selects mX11_count.2.1.cls mX11_count.2.1 mX11_count.2.1 ∈ zTb := zTb_k zTc4 (List.mem_of_getElem? (i := 25) rfl) rfl
theorem ziX11_owed : Cond.instanceMethod mX11_owed.2.1 ∈ zTb := zTb_k zTc4 (List.mem_of_getElem? (i := 28) rfl) rfl
theorem zqX11_owed : Cond.selects mX11_owed.2.1.cls mX11_owed.2.1 mX11_owed.2.1 ∈ zTb := zTb_k zTc4 (List.mem_of_getElem? (i := 29) rfl) rfl
theorem ziX11_earned : Cond.instanceMethod mX11_earned.2.1 ∈ zTb := zTb_k zTc4 (List.mem_of_getElem? (i := 39) rfl) rfl
theorem zqX11_earned : Cond.selects mX11_earned.2.1.cls mX11_earned.2.1 mX11_earned.2.1 ∈ zTb := zTb_k zTc4 (List.mem_of_getElem? (i := 40) rfl) rfl
theorem zsX11_isTellable : Cond.static mX11_isTellable.2.1 ∈ zTb := zTb_k zTc4 (List.mem_of_getElem? (i := 32) rfl) rfl
theorem ziX11_isRule : Cond.instanceMethod mX11_isRule.2.1 ∈ zTb := zTb_k zTc5 (List.mem_of_getElem? (i := 123) rfl) rfl
theorem zqX11_isRule : Cond.selects mX11_isRule.2.1.cls mX11_isRule.2.1 mX11_isRule.2.1 ∈ zTb := zTb_k zTc0 (List.mem_of_getElem? (i := 52) rfl) rfl
theorem ziX11_act : Cond.instanceMethod mX11_act.2.1 ∈ zTb := zTb_k zTc4 (List.mem_of_getElem? (i := 87) rfl) rfl
theorem zqX11_act : Cond.selects mX11_act.2.1.cls mX11_act.2.1 mX11_act.2.1 ∈ zTb := zTb_k zTc4 (List.mem_of_getElem? (i := 88) rfl) rfl
theorem ziX11_row : Cond.instanceMethod mX11_row.2.1 ∈ zTb := zTb_k zTc4 (List.mem_of_getElem? (i := 99) rfl) rfl
theorem zqX11_row : Cond.selects mX11_row.2.1.cls mX11_row.2.1 mX11_row.2.1 ∈ zTb := zTb_k zTc4 (List.mem_of_getElem? (i := 100) rfl) rfl
theorem ziX11_judged : Cond.instanceMethod mX11_judged.2.1 ∈ zTb := zTb_k zTc4 (List.mem_of_getElem? (i := 103) rfl) rfl
theorem zqX11_judged : Cond.selects mX11_judged.2.1.cls mX11_judged.2.1 mX11_judged.2.1 ∈ zTb := zTb_k zTc4 (List.mem_of_getElem? (i := 104) rfl) rfl
theorem ziX11_then : Cond.instanceMethod mX11_then.2.1 ∈ zTb := zTb_k zTc4 (List.mem_of_getElem? (i := 182) rfl) rfl
theorem zqX11_then : Cond.selects mX11_then.2.1.cls mX11_then.2.1 mX11_then.2.1 ∈ zTb := zTb_k zTc4 (List.mem_of_getElem? (i := 183) rfl) rfl
theorem ziX11_readyPlans : Cond.instanceMethod mX11_readyPlans.2.1 ∈ zTb := zTb_k zTc4 (List.mem_of_getElem? (i := 191) rfl) rfl
theorem zqX11_readyPlans : Cond.selects mX11_readyPlans.2.1.cls mX11_readyPlans.2.1 mX11_readyPlans.2.1 ∈ zTb := zTb_k zTc0 (List.mem_of_getElem? (i := 38) rfl) rfl
theorem zsX11_orLacking : Cond.static mX11_orLacking.2.1 ∈ zTb := zTb_k zTc5 (List.mem_of_getElem? (i := 86) rfl) rfl
theorem ziX11_soon : Cond.instanceMethod mX11_soon.2.1 ∈ zTb := zTb_k zTc4 (List.mem_of_getElem? (i := 186) rfl) rfl
theorem zqX11_soon : Cond.selects mX11_soon.2.1.cls mX11_soon.2.1 mX11_soon.2.1 ∈ zTb := zTb_k zTc4 (List.mem_of_getElem? (i := 187) rfl) rfl
theorem ziX11_best : Cond.instanceMethod mX11_best.2.1 ∈ zTb := zTb_k zTc5 (List.mem_of_getElem? (i := 25) rfl) rfl
theorem zqX11_best : Cond.selects mX11_best.2.1.cls mX11_best.2.1 mX11_best.2.1 ∈ zTb := zTb_k zTc5 (List.mem_of_getElem? (i := 26) rfl) rfl
theorem ziX11_fetched : Cond.instanceMethod mX11_fetched.2.1 ∈ zTb := zTb_k zTc5 (List.mem_of_getElem? (i := 37) rfl) rfl
theorem zqX11_fetched : Cond.selects mX11_fetched.2.1.cls mX11_fetched.2.1 mX11_fetched.2.1 ∈ zTb := zTb_k zTc5 (List.mem_of_getElem? (i := 38) rfl) rfl
theorem ziX11_hangs : Cond.instanceMethod mX11_hangs.2.1 ∈ zTb := zTb_k zTc5 (List.mem_of_getElem? (i := 41) rfl) rfl
theorem zqX11_hangs : Cond.selects mX11_hangs.2.1.cls mX11_hangs.2.1 mX11_hangs.2.1 ∈ zTb := zTb_k zTc5 (List.mem_of_getElem? (i := 42) rfl) rfl
theorem ziX11_key : Cond.instanceMethod mX11_key.2.1 ∈ zTb := zTb_k zTc5 (List.mem_of_getElem? (i := 54) rfl) rfl
theorem zqX11_key : Cond.selects mX11_key.2.1.cls mX11_key.2.1 mX11_key.2.1 ∈ zTb := zTb_k zTc5 (List.mem_of_getElem? (i := 55) rfl) rfl
theorem ziX11_wise : Cond.instanceMethod mX11_wise.2.1 ∈ zTb := zTb_k zTc5 (List.mem_of_getElem? (i := 64) rfl) rfl
theorem zqX11_wise : Cond.selects mX11_wise.2.1.cls mX11_wise.2.1 mX11_wise.2.1 ∈ zTb := zTb_k zTc5 (List.mem_of_getElem? (i := 65) rfl) rfl
theorem ziX11_borrowed : Cond.instanceMethod mX11_borrowed.2.1 ∈ zTb := zTb_k zTc5 (List.mem_of_getElem? (i := 74) rfl) rfl
theorem zqX11_borrowed : Cond.selects mX11_borrowed.2.1.cls mX11_borrowed.2.1 mX11_borrowed.2.1 ∈ zTb := zTb_k zTc5 (List.mem_of_getElem? (i := 75) rfl) rfl
theorem ziX11_when : Cond.instanceMethod mX11_when.2.1 ∈ zTb := zTb_k zTc5 (List.mem_of_getElem? (i := 89) rfl) rfl
theorem zqX11_when : Cond.selects mX11_when.2.1.cls mX11_when.2.1 mX11_when.2.1 ∈ zTb := zTb_k zTc5 (List.mem_of_getElem? (i := 90) rfl) rfl
theorem ziX11_sold : Cond.instanceMethod mX11_sold.2.1 ∈ zTb := zTb_k zTc5 (List.mem_of_getElem? (i := 98) rfl) rfl
theorem zqX11_sold : Cond.selects mX11_sold.2.1.cls mX11_sold.2.1 mX11_sold.2.1 ∈ zTb := zTb_k zTc5 (List.mem_of_getElem? (i := 99) rfl) rfl
theorem ziX11_selling : Cond.instanceMethod mX11_selling.2.1 ∈ zTb := zTb_k zTc5 (List.mem_of_getElem? (i := 110) rfl) rfl
theorem zqX11_selling : Cond.selects mX11_selling.2.1.cls mX11_selling.2.1 mX11_selling.2.1 ∈ zTb := zTb_k zTc5 (List.mem_of_getElem? (i := 111) rfl) rfl
theorem ziX11_likes : Cond.instanceMethod mX11_likes.2.1 ∈ zTb := zTb_k zTc5 (List.mem_of_getElem? (i := 118) rfl) rfl
theorem zqX11_likes : Cond.selects mX11_likes.2.1.cls mX11_likes.2.1 mX11_likes.2.1 ∈ zTb := zTb_k zTc5 (List.mem_of_getElem? (i := 119) rfl) rfl
theorem ziX11_ruled : Cond.instanceMethod mX11_ruled.2.1 ∈ zTb := zTb_k zTc5 (List.mem_of_getElem? (i := 140) rfl) rfl
theorem zqX11_ruled : Cond.selects mX11_ruled.2.1.cls mX11_ruled.2.1 mX11_ruled.2.1 ∈ zTb := zTb_k zTc5 (List.mem_of_getElem? (i := 141) rfl) rfl
theorem ziX11_finest : Cond.instanceMethod mX11_finest.2.1 ∈ zTb := zTb_k zTc5 (List.mem_of_getElem? (i := 153) rfl) rfl
theorem zqX11_finest : Cond.selects mX11_finest.2.1.cls mX11_finest.2.1 mX11_finest.2.1 ∈ zTb := zTb_k zTc5 (List.mem_of_getElem? (i := 154) rfl) rfl
theorem ziX11_parts : Cond.instanceMethod mX11_parts.2.1 ∈ zTb := zTb_k zTc5 (List.mem_of_getElem? (i := 157) rfl) rfl
theorem zqX11_parts : Cond.selects mX11_parts.2.1.cls mX11_parts.2.1 mX11_parts.2.1 ∈ zTb := zTb_k zTc5 (List.mem_of_getElem? (i := 158) rfl) rfl
theorem ziX11_holds : Cond.instanceMethod mX11_holds.2.1 ∈ zTb := zTb_k zTc5 (List.mem_of_getElem? (i := 162) rfl) rfl
theorem zqX11_holds : Cond.selects mX11_holds.2.1.cls mX11_holds.2.1 mX11_holds.2.1 ∈ zTb := zTb_k zTc5 (List.mem_of_getElem? (i := 163) rfl) rfl
theorem ziX11_goes : Cond.instanceMethod mX11_goes.2.1 ∈ zTb := zTb_k zTc5 (List.mem_of_getElem? (i := 179) rfl) rfl
theorem zqX11_goes : Cond.selects mX11_goes.2.1.cls mX11_goes.2.1 mX11_goes.2.1 ∈ zTb := zTb_k zTc5 (List.mem_of_getElem? (i := 180) rfl) rfl
theorem zsX11_isDrawable : Cond.static mX11_isDrawable.2.1 ∈ zTb := zTb_k zTc5 (List.mem_of_getElem? (i := 166) rfl) rfl
theorem ziX11_surely : Cond.instanceMethod mX11_surely.2.1 ∈ zTb := zTb_k zTc5 (List.mem_of_getElem? (i := 183) rfl) rfl
theorem zqX11_surely : Cond.selects mX11_surely.2.1.cls mX11_surely.2.1 mX11_surely.2.1 ∈ zTb := zTb_k zTc5 (List.mem_of_getElem? (i := 184) rfl) rfl
theorem ziX11_chanceOf : Cond.instanceMethod mX11_chanceOf.2.1 ∈ zTb := zTb_k zTc5 (List.mem_of_getElem? (i := 188) rfl) rfl
theorem zqX11_chanceOf : Cond.selects mX11_chanceOf.2.1.cls mX11_chanceOf.2.1 mX11_chanceOf.2.1 ∈ zTb := zTb_k zTc0 (List.mem_of_getElem? (i := 54) rfl) rfl
theorem ziX11_most : Cond.instanceMethod mX11_most.2.1 ∈ zTb := zTb_k zTc5 (List.mem_of_getElem? (i := 193) rfl) rfl
theorem zqX11_most : Cond.selects mX11_most.2.1.cls mX11_most.2.1 mX11_most.2.1 ∈ zTb := zTb_k zTc5 (List.mem_of_getElem? (i := 194) rfl) rfl
theorem ziX11_needed : Cond.instanceMethod mX11_needed.2.1 ∈ zTb := zTb_k zTc5 (List.mem_of_getElem? (i := 197) rfl) rfl
theorem zqX11_needed : Cond.selects mX11_needed.2.1.cls mX11_needed.2.1 mX11_needed.2.1 ∈ zTb := zTb_k zTc5 (List.mem_of_getElem? (i := 198) rfl) rfl
theorem ziX11_pays : Cond.instanceMethod mX11_pays.2.1 ∈ zTb := zTb_k zTc5 (List.mem_of_getElem? (i := 202) rfl) rfl
theorem zqX11_pays : Cond.selects mX11_pays.2.1.cls mX11_pays.2.1 mX11_pays.2.1 ∈ zTb := zTb_k zTc5 (List.mem_of_getElem? (i := 203) rfl) rfl
theorem ziX11_image : Cond.instanceMethod mX11_image.2.1 ∈ zTb := zTb_k zTc5 (List.mem_of_getElem? (i := 206) rfl) rfl
theorem zqX11_image : Cond.selects mX11_image.2.1.cls mX11_image.2.1 mX11_image.2.1 ∈ zTb := zTb_k zTc5 (List.mem_of_getElem? (i := 207) rfl) rfl
theorem ziX11_back : Cond.instanceMethod mX11_back.2.1 ∈ zTb := zTb_k zTc5 (List.mem_of_getElem? (i := 215) rfl) rfl
theorem zqX11_back : Cond.selects mX11_back.2.1.cls mX11_back.2.1 mX11_back.2.1 ∈ zTb := zTb_k zTc5 (List.mem_of_getElem? (i := 216) rfl) rfl
theorem ziX12_init : Cond.instanceMethod mX12_init.2.1 ∈ zTb := zTb_k zTc5 (List.mem_of_getElem? (i := 221) rfl) rfl
theorem zsX12_in : Cond.static mX12_in.2.1 ∈ zTb := zTb_k zTc7 (List.mem_of_getElem? (i := 15) rfl) rfl
theorem zsX12_bits : Cond.static mX12_bits.2.1 ∈ zTb := zTb_k zTc7 (List.mem_of_getElem? (i := 141) rfl) rfl
theorem ziX12_clears : Cond.instanceMethod mX12_clears.2.1 ∈ zTb := zTb_k zTc5 (List.mem_of_getElem? (i := 226) rfl) rfl
theorem zqX12_clears : Cond.selects mX12_clears.2.1.cls mX12_clears.2.1 mX12_clears.2.1 ∈ zTb := zTb_k zTc0 (List.mem_of_getElem? (i := 55) rfl) rfl
theorem ziX12_feed : Cond.instanceMethod mX12_feed.2.1 ∈ zTb := zTb_k zTc6 (List.mem_of_getElem? (i := 193) rfl) rfl
theorem zqX12_feed : Cond.selects mX12_feed.2.1.cls mX12_feed.2.1 mX12_feed.2.1 ∈ zTb := zTb_k zTc6 (List.mem_of_getElem? (i := 194) rfl) rfl
theorem ziX12_put : Cond.instanceMethod mX12_put.2.1 ∈ zTb := zTb_k zTc6 (List.mem_of_getElem? (i := 198) rfl) rfl
theorem zqX12_put : Cond.selects mX12_put.2.1.cls mX12_put.2.1 mX12_put.2.1 ∈ zTb := zTb_k zTc0 (List.mem_of_getElem? (i := 56) rfl) rfl
theorem ziX12_end : Cond.instanceMethod mX12_end.2.1 ∈ zTb := zTb_k zTc6 (List.mem_of_getElem? (i := 201) rfl) rfl
theorem zqX12_end : Cond.selects mX12_end.2.1.cls mX12_end.2.1 mX12_end.2.1 ∈ zTb := zTb_k zTc6 (List.mem_of_getElem? (i := 202) rfl) rfl
theorem ziX12_wordOf : Cond.instanceMethod mX12_wordOf.2.1 ∈ zTb := zTb_k zTc7 (List.mem_of_getElem? (i := 40) rfl) rfl
theorem zqX12_wordOf : Cond.selects mX12_wordOf.2.1.cls mX12_wordOf.2.1 mX12_wordOf.2.1 ∈ zTb := zTb_k zTc0 (List.mem_of_getElem? (i := 72) rfl) rfl
theorem zsX12_ruleWord : Cond.static mX12_ruleWord.2.1 ∈ zTb := zTb_k zTc7 (List.mem_of_getElem? (i := 43) rfl) rfl
theorem zsX12_clauseOf : Cond.static mX12_clauseOf.2.1 ∈ zTb := zTb_k zTc7 (List.mem_of_getElem? (i := 95) rfl) rfl
theorem zsX12_extraOf : Cond.static mX12_extraOf.2.1 ∈ zTb := zTb_k zTc7 (List.mem_of_getElem? (i := 114) rfl) rfl
theorem ziX12_fails : Cond.instanceMethod mX12_fails.2.1 ∈ zTb := zTb_k zTc6 (List.mem_of_getElem? (i := 234) rfl) rfl
theorem zqX12_fails : Cond.selects mX12_fails.2.1.cls mX12_fails.2.1 mX12_fails.2.1 ∈ zTb := zTb_k zTc0 (List.mem_of_getElem? (i := 62) rfl) rfl
theorem ziX12_sign : Cond.instanceMethod mX12_sign.2.1 ∈ zTb := zTb_k zTc6 (List.mem_of_getElem? (i := 222) rfl) rfl
theorem zqX12_sign : Cond.selects mX12_sign.2.1.cls mX12_sign.2.1 mX12_sign.2.1 ∈ zTb := zTb_k zTc0 (List.mem_of_getElem? (i := 60) rfl) rfl
theorem ziX12_blanks : Cond.instanceMethod mX12_blanks.2.1 ∈ zTb := zTb_k zTc6 (List.mem_of_getElem? (i := 218) rfl) rfl
theorem zqX12_blanks : Cond.selects mX12_blanks.2.1.cls mX12_blanks.2.1 mX12_blanks.2.1 ∈ zTb := zTb_k zTc0 (List.mem_of_getElem? (i := 59) rfl) rfl
theorem ziX12_isDigit : Cond.instanceMethod mX12_isDigit.2.1 ∈ zTb := zTb_k zTc7 (List.mem_of_getElem? (i := 10) rfl) rfl
theorem zqX12_isDigit : Cond.selects mX12_isDigit.2.1.cls mX12_isDigit.2.1 mX12_isDigit.2.1 ∈ zTb := zTb_k zTc0 (List.mem_of_getElem? (i := 66) rfl) rfl
theorem ziX12_stands : Cond.instanceMethod mX12_stands.2.1 ∈ zTb := zTb_k zTc6 (List.mem_of_getElem? (i := 227) rfl) rfl
theorem zqX12_stands : Cond.selects mX12_stands.2.1.cls mX12_stands.2.1 mX12_stands.2.1 ∈ zTb := zTb_k zTc0 (List.mem_of_getElem? (i := 61) rfl) rfl
theorem ziX12_takes : Cond.instanceMethod mX12_takes.2.1 ∈ zTb := zTb_k zTc7 (List.mem_of_getElem? (i := 61) rfl) rfl
theorem zqX12_takes : Cond.selects mX12_takes.2.1.cls mX12_takes.2.1 mX12_takes.2.1 ∈ zTb := zTb_k zTc0 (List.mem_of_getElem? (i := 74) rfl) rfl
theorem ziX12_entry : Cond.instanceMethod mX12_entry.2.1 ∈ zTb := zTb_k zTc7 (List.mem_of_getElem? (i := 36) rfl) rfl
theorem zqX12_entry : Cond.selects mX12_entry.2.1.cls mX12_entry.2.1 mX12_entry.2.1 ∈ zTb := zTb_k zTc0 (List.mem_of_getElem? (i := 71) rfl) rfl
theorem ziX12_isCounted : Cond.instanceMethod mX12_isCounted.2.1 ∈ zTb := zTb_k zTc7 (List.mem_of_getElem? (i := 32) rfl) rfl
theorem zqX12_isCounted : Cond.selects mX12_isCounted.2.1.cls mX12_isCounted.2.1 mX12_isCounted.2.1 ∈ zTb := zTb_k zTc0 (List.mem_of_getElem? (i := 70) rfl) rfl
theorem ziX12_digits : Cond.instanceMethod mX12_digits.2.1 ∈ zTb := zTb_k zTc7 (List.mem_of_getElem? (i := 6) rfl) rfl
theorem zqX12_digits : Cond.selects mX12_digits.2.1.cls mX12_digits.2.1 mX12_digits.2.1 ∈ zTb := zTb_k zTc0 (List.mem_of_getElem? (i := 65) rfl) rfl
theorem ziX12_value : Cond.instanceMethod mX12_value.2.1 ∈ zTb := zTb_k zTc7 (List.mem_of_getElem? (i := 27) rfl) rfl
theorem zqX12_value : Cond.selects mX12_value.2.1.cls mX12_value.2.1 mX12_value.2.1 ∈ zTb := zTb_k zTc0 (List.mem_of_getElem? (i := 69) rfl) rfl
theorem ziX12_term : Cond.instanceMethod mX12_term.2.1 ∈ zTb := zTb_k zTc7 (List.mem_of_getElem? (i := 23) rfl) rfl
theorem zqX12_term : Cond.selects mX12_term.2.1.cls mX12_term.2.1 mX12_term.2.1 ∈ zTb := zTb_k zTc0 (List.mem_of_getElem? (i := 68) rfl) rfl
theorem ziX12_sum : Cond.instanceMethod mX12_sum.2.1 ∈ zTb := zTb_k zTc7 (List.mem_of_getElem? (i := 19) rfl) rfl
theorem zqX12_sum : Cond.selects mX12_sum.2.1.cls mX12_sum.2.1 mX12_sum.2.1 ∈ zTb := zTb_k zTc0 (List.mem_of_getElem? (i := 67) rfl) rfl
theorem ziX12_compared : Cond.instanceMethod mX12_compared.2.1 ∈ zTb := zTb_k zTc7 (List.mem_of_getElem? (i := 78) rfl) rfl
theorem zqX12_compared : Cond.selects mX12_compared.2.1.cls mX12_compared.2.1 mX12_compared.2.1 ∈ zTb := zTb_k zTc0 (List.mem_of_getElem? (i := 78) rfl) rfl
theorem ziX12_top : Cond.instanceMethod mX12_top.2.1 ∈ zTb := zTb_k zTc7 (List.mem_of_getElem? (i := 86) rfl) rfl
theorem zqX12_top : Cond.selects mX12_top.2.1.cls mX12_top.2.1 mX12_top.2.1 ∈ zTb := zTb_k zTc0 (List.mem_of_getElem? (i := 80) rfl) rfl
theorem ziX12_opens : Cond.instanceMethod mX12_opens.2.1 ∈ zTb := zTb_k zTc7 (List.mem_of_getElem? (i := 74) rfl) rfl
theorem zqX12_opens : Cond.selects mX12_opens.2.1.cls mX12_opens.2.1 mX12_opens.2.1 ∈ zTb := zTb_k zTc0 (List.mem_of_getElem? (i := 77) rfl) rfl
theorem ziX12_answers : Cond.instanceMethod mX12_answers.2.1 ∈ zTb := zTb_k zTc7 (List.mem_of_getElem? (i := 82) rfl) rfl
theorem zqX12_answers : Cond.selects mX12_answers.2.1.cls mX12_answers.2.1 mX12_answers.2.1 ∈ zTb := zTb_k zTc0 (List.mem_of_getElem? (i := 79) rfl) rfl
theorem ziX12_fact : Cond.instanceMethod mX12_fact.2.1 ∈ zTb := zTb_k zTc7 (List.mem_of_getElem? (i := 69) rfl) rfl
theorem zqX12_fact : Cond.selects mX12_fact.2.1.cls mX12_fact.2.1 mX12_fact.2.1 ∈ zTb := zTb_k zTc0 (List.mem_of_getElem? (i := 76) rfl) rfl
theorem ziX12_test : Cond.instanceMethod mX12_test.2.1 ∈ zTb := zTb_k zTc7 (List.mem_of_getElem? (i := 65) rfl) rfl
theorem zqX12_test : Cond.selects mX12_test.2.1.cls mX12_test.2.1 mX12_test.2.1 ∈ zTb := zTb_k zTc0 (List.mem_of_getElem? (i := 75) rfl) rfl
theorem ziX12_amount : Cond.instanceMethod mX12_amount.2.1 ∈ zTb := zTb_k zTc7 (List.mem_of_getElem? (i := 2) rfl) rfl
theorem zqX12_amount : Cond.selects mX12_amount.2.1.cls mX12_amount.2.1 mX12_amount.2.1 ∈ zTb := zTb_k zTc0 (List.mem_of_getElem? (i := 64) rfl) rfl
theorem ziX12_wasTold : Cond.instanceMethod mX12_wasTold.2.1 ∈ zTb := zTb_k zTc6 (List.mem_of_getElem? (i := 238) rfl) rfl
theorem zqX12_wasTold : Cond.selects mX12_wasTold.2.1.cls mX12_wasTold.2.1 mX12_wasTold.2.1 ∈ zTb := zTb_k zTc0 (List.mem_of_getElem? (i := 63) rfl) rfl
theorem ziX12_letter : Cond.instanceMethod mX12_letter.2.1 ∈ zTb := zTb_k zTc7 (List.mem_of_getElem? (i := 109) rfl) rfl
theorem zqX12_letter : Cond.selects mX12_letter.2.1.cls mX12_letter.2.1 mX12_letter.2.1 ∈ zTb := zTb_k zTc0 (List.mem_of_getElem? (i := 83) rfl) rfl
theorem ziX12_ifTest : Cond.instanceMethod mX12_ifTest.2.1 ∈ zTb := zTb_k zTc7 (List.mem_of_getElem? (i := 56) rfl) rfl
theorem zqX12_ifTest : Cond.selects mX12_ifTest.2.1.cls mX12_ifTest.2.1 mX12_ifTest.2.1 ∈ zTb := zTb_k zTc0 (List.mem_of_getElem? (i := 73) rfl) rfl
theorem ziX12_thingClause : Cond.instanceMethod mX12_thingClause.2.1 ∈ zTb := zTb_k zTc7 (List.mem_of_getElem? (i := 105) rfl) rfl
theorem zqX12_thingClause : Cond.selects mX12_thingClause.2.1.cls mX12_thingClause.2.1 mX12_thingClause.2.1 ∈ zTb := zTb_k zTc0 (List.mem_of_getElem? (i := 82) rfl) rfl
theorem ziX12_extra : Cond.instanceMethod mX12_extra.2.1 ∈ zTb := zTb_k zTc7 (List.mem_of_getElem? (i := 121) rfl) rfl
theorem zqX12_extra : Cond.selects mX12_extra.2.1.cls mX12_extra.2.1 mX12_extra.2.1 ∈ zTb := zTb_k zTc0 (List.mem_of_getElem? (i := 84) rfl) rfl
theorem ziX12_setClause : Cond.instanceMethod mX12_setClause.2.1 ∈ zTb := zTb_k zTc7 (List.mem_of_getElem? (i := 125) rfl) rfl
theorem zqX12_setClause : Cond.selects mX12_setClause.2.1.cls mX12_setClause.2.1 mX12_setClause.2.1 ∈ zTb := zTb_k zTc0 (List.mem_of_getElem? (i := 85) rfl) rfl
theorem ziX12_onceClause : Cond.instanceMethod mX12_onceClause.2.1 ∈ zTb := zTb_k zTc7 (List.mem_of_getElem? (i := 130) rfl) rfl
theorem zqX12_onceClause : Cond.selects mX12_onceClause.2.1.cls mX12_onceClause.2.1 mX12_onceClause.2.1 ∈ zTb := zTb_k zTc0 (List.mem_of_getElem? (i := 86) rfl) rfl
theorem ziX12_bookClause : Cond.instanceMethod mX12_bookClause.2.1 ∈ zTb := zTb_k zTc7 (List.mem_of_getElem? (i := 92) rfl) rfl
theorem zqX12_bookClause : Cond.selects mX12_bookClause.2.1.cls mX12_bookClause.2.1 mX12_bookClause.2.1 ∈ zTb := zTb_k zTc0 (List.mem_of_getElem? (i := 81) rfl) rfl
theorem ziX12_ruleClause : Cond.instanceMethod mX12_ruleClause.2.1 ∈ zTb := zTb_k zTc6 (List.mem_of_getElem? (i := 214) rfl) rfl
theorem zqX12_ruleClause : Cond.selects mX12_ruleClause.2.1.cls mX12_ruleClause.2.1 mX12_ruleClause.2.1 ∈ zTb := zTb_k zTc0 (List.mem_of_getElem? (i := 58) rfl) rfl
theorem ziX12_reads : Cond.instanceMethod mX12_reads.2.1 ∈ zTb := zTb_k zTc6 (List.mem_of_getElem? (i := 210) rfl) rfl
theorem zqX12_reads : Cond.selects mX12_reads.2.1.cls mX12_reads.2.1 mX12_reads.2.1 ∈ zTb := zTb_k zTc0 (List.mem_of_getElem? (i := 57) rfl) rfl
theorem zsX12_over : Cond.static mX12_over.2.1 ∈ zTb := zTb_k zTc7 (List.mem_of_getElem? (i := 134) rfl) rfl
theorem ziX12_book : Cond.instanceMethod mX12_book.2.1 ∈ zTb := zTb_k zTc6 (List.mem_of_getElem? (i := 205) rfl) rfl
theorem zqX12_book : Cond.selects mX12_book.2.1.cls mX12_book.2.1 mX12_book.2.1 ∈ zTb := zTb_k zTc6 (List.mem_of_getElem? (i := 206) rfl) rfl
theorem ziX12_rule : Cond.instanceMethod mX12_rule.2.1 ∈ zTb := zTb_k zTc7 (List.mem_of_getElem? (i := 144) rfl) rfl
theorem zqX12_rule : Cond.selects mX12_rule.2.1.cls mX12_rule.2.1 mX12_rule.2.1 ∈ zTb := zTb_k zTc7 (List.mem_of_getElem? (i := 145) rfl) rfl
theorem zsX12_truth : Cond.static mX12_truth.2.1 ∈ zTb := zTb_k zTc7 (List.mem_of_getElem? (i := 196) rfl) rfl
theorem zsX12_both : Cond.static mX12_both.2.1 ∈ zTb := zTb_k zTc7 (List.mem_of_getElem? (i := 193) rfl) rfl
theorem ziX12_answer : Cond.instanceMethod mX12_answer.2.1 ∈ zTb := zTb_k zTc7 (List.mem_of_getElem? (i := 190) rfl) rfl
theorem zqX12_answer : Cond.selects mX12_answer.2.1.cls mX12_answer.2.1 mX12_answer.2.1 ∈ zTb := zTb_k zTc0 (List.mem_of_getElem? (i := 93) rfl) rfl
theorem ziX12_all : Cond.instanceMethod mX12_all.2.1 ∈ zTb := zTb_k zTc7 (List.mem_of_getElem? (i := 138) rfl) rfl
theorem zqX12_all : Cond.selects mX12_all.2.1.cls mX12_all.2.1 mX12_all.2.1 ∈ zTb := zTb_k zTc0 (List.mem_of_getElem? (i := 87) rfl) rfl
theorem ziX12_has : Cond.instanceMethod mX12_has.2.1 ∈ zTb := zTb_k zTc7 (List.mem_of_getElem? (i := 153) rfl) rfl
theorem zqX12_has : Cond.selects mX12_has.2.1.cls mX12_has.2.1 mX12_has.2.1 ∈ zTb := zTb_k zTc0 (List.mem_of_getElem? (i := 88) rfl) rfl
theorem zsX12_isWeek : Cond.static mX12_isWeek.2.1 ∈ zTb := zTb_k zTc7 (List.mem_of_getElem? (i := 169) rfl) rfl
theorem ziX12_isOfBook : Cond.instanceMethod mX12_isOfBook.2.1 ∈ zTb := zTb_k zTc8 (List.mem_of_getElem? (i := 111) rfl) rfl
theorem zqX12_isOfBook : Cond.selects mX12_isOfBook.2.1.cls mX12_isOfBook.2.1 mX12_isOfBook.2.1 ∈ zTb := zTb_k zTc0 (List.mem_of_getElem? (i := 116) rfl) rfl
theorem ziX12_thing : Cond.instanceMethod mX12_thing.2.1 ∈ zTb := zTb_k zTc7 (List.mem_of_getElem? (i := 148) rfl) rfl
theorem zqX12_thing : Cond.selects mX12_thing.2.1.cls mX12_thing.2.1 mX12_thing.2.1 ∈ zTb := zTb_k zTc7 (List.mem_of_getElem? (i := 149) rfl) rfl
theorem ziX12_clausesOf : Cond.instanceMethod mX12_clausesOf.2.1 ∈ zTb := zTb_k zTc7 (List.mem_of_getElem? (i := 162) rfl) rfl
theorem zqX12_clausesOf : Cond.selects mX12_clausesOf.2.1.cls mX12_clausesOf.2.1 mX12_clausesOf.2.1 ∈ zTb := zTb_k zTc0 (List.mem_of_getElem? (i := 89) rfl) rfl
theorem ziX12_count : Cond.instanceMethod mX12_count.2.1 ∈ zTb := zTb_k zTc7 (List.mem_of_getElem? (i := 157) rfl) rfl
theorem zqX12_count : Cond.selects mX12_count.2.1.cls mX12_count.2.1 mX12_count.2.1 ∈ zTb := zTb_k zTc7 (List.mem_of_getElem? (i := 158) rfl) rfl
theorem ziX12_owedAtFirst : Cond.instanceMethod mX12_owedAtFirst.2.1 ∈ zTb := zTb_k zTc7 (List.mem_of_getElem? (i := 174) rfl) rfl
theorem zqX12_owedAtFirst : Cond.selects mX12_owedAtFirst.2.1.cls mX12_owedAtFirst.2.1 mX12_owedAtFirst.2.1 ∈ zTb := zTb_k zTc0 (List.mem_of_getElem? (i := 90) rfl) rfl
theorem ziX12_owed : Cond.instanceMethod mX12_owed.2.1 ∈ zTb := zTb_k zTc7 (List.mem_of_getElem? (i := 165) rfl) rfl
theorem zqX12_owed : Cond.selects mX12_owed.2.1.cls mX12_owed.2.1 mX12_owed.2.1 ∈ zTb := zTb_k zTc7 (List.mem_of_getElem? (i := 166) rfl) rfl
theorem ziX12_comes : Cond.instanceMethod mX12_comes.2.1 ∈ zTb := zTb_k zTc7 (List.mem_of_getElem? (i := 186) rfl) rfl
theorem zqX12_comes : Cond.selects mX12_comes.2.1.cls mX12_comes.2.1 mX12_comes.2.1 ∈ zTb := zTb_k zTc0 (List.mem_of_getElem? (i := 92) rfl) rfl
theorem ziX12_isSet : Cond.instanceMethod mX12_isSet.2.1 ∈ zTb := zTb_k zTc7 (List.mem_of_getElem? (i := 182) rfl) rfl
theorem zqX12_isSet : Cond.selects mX12_isSet.2.1.cls mX12_isSet.2.1 mX12_isSet.2.1 ∈ zTb := zTb_k zTc0 (List.mem_of_getElem? (i := 91) rfl) rfl
theorem ziX12_earned : Cond.instanceMethod mX12_earned.2.1 ∈ zTb := zTb_k zTc7 (List.mem_of_getElem? (i := 177) rfl) rfl
theorem zqX12_earned : Cond.selects mX12_earned.2.1.cls mX12_earned.2.1 mX12_earned.2.1 ∈ zTb := zTb_k zTc7 (List.mem_of_getElem? (i := 178) rfl) rfl
theorem ziX12_act : Cond.instanceMethod mX12_act.2.1 ∈ zTb := zTb_k zTc7 (List.mem_of_getElem? (i := 199) rfl) rfl
theorem zqX12_act : Cond.selects mX12_act.2.1.cls mX12_act.2.1 mX12_act.2.1 ∈ zTb := zTb_k zTc7 (List.mem_of_getElem? (i := 200) rfl) rfl
theorem ziX12_row : Cond.instanceMethod mX12_row.2.1 ∈ zTb := zTb_k zTc7 (List.mem_of_getElem? (i := 204) rfl) rfl
theorem zqX12_row : Cond.selects mX12_row.2.1.cls mX12_row.2.1 mX12_row.2.1 ∈ zTb := zTb_k zTc7 (List.mem_of_getElem? (i := 205) rfl) rfl
theorem ziX12_begins : Cond.instanceMethod mX12_begins.2.1 ∈ zTb := zTb_k zTc7 (List.mem_of_getElem? (i := 217) rfl) rfl
theorem zqX12_begins : Cond.selects mX12_begins.2.1.cls mX12_begins.2.1 mX12_begins.2.1 ∈ zTb := zTb_k zTc0 (List.mem_of_getElem? (i := 95) rfl) rfl
theorem ziX12_placed : Cond.instanceMethod mX12_placed.2.1 ∈ zTb := zTb_k zTc8 (List.mem_of_getElem? (i := 6) rfl) rfl
theorem zqX12_placed : Cond.selects mX12_placed.2.1.cls mX12_placed.2.1 mX12_placed.2.1 ∈ zTb := zTb_k zTc0 (List.mem_of_getElem? (i := 101) rfl) rfl
theorem ziX12_owedNow : Cond.instanceMethod mX12_owedNow.2.1 ∈ zTb := zTb_k zTc7 (List.mem_of_getElem? (i := 238) rfl) rfl
theorem zqX12_owedNow : Cond.selects mX12_owedNow.2.1.cls mX12_owedNow.2.1 mX12_owedNow.2.1 ∈ zTb := zTb_k zTc0 (List.mem_of_getElem? (i := 99) rfl) rfl
theorem ziX12_loses : Cond.instanceMethod mX12_loses.2.1 ∈ zTb := zTb_k zTc7 (List.mem_of_getElem? (i := 230) rfl) rfl
theorem zqX12_loses : Cond.selects mX12_loses.2.1.cls mX12_loses.2.1 mX12_loses.2.1 ∈ zTb := zTb_k zTc0 (List.mem_of_getElem? (i := 97) rfl) rfl
theorem ziX12_does : Cond.instanceMethod mX12_does.2.1 ∈ zTb := zTb_k zTc7 (List.mem_of_getElem? (i := 234) rfl) rfl
theorem zqX12_does : Cond.selects mX12_does.2.1.cls mX12_does.2.1 mX12_does.2.1 ∈ zTb := zTb_k zTc0 (List.mem_of_getElem? (i := 98) rfl) rfl
theorem ziX12_ends : Cond.instanceMethod mX12_ends.2.1 ∈ zTb := zTb_k zTc8 (List.mem_of_getElem? (i := 2) rfl) rfl
theorem zqX12_ends : Cond.selects mX12_ends.2.1.cls mX12_ends.2.1 mX12_ends.2.1 ∈ zTb := zTb_k zTc0 (List.mem_of_getElem? (i := 100) rfl) rfl
theorem ziX12_works : Cond.instanceMethod mX12_works.2.1 ∈ zTb := zTb_k zTc7 (List.mem_of_getElem? (i := 221) rfl) rfl
theorem zqX12_works : Cond.selects mX12_works.2.1.cls mX12_works.2.1 mX12_works.2.1 ∈ zTb := zTb_k zTc0 (List.mem_of_getElem? (i := 96) rfl) rfl
theorem ziX12_goesBy : Cond.instanceMethod mX12_goesBy.2.1 ∈ zTb := zTb_k zTc7 (List.mem_of_getElem? (i := 213) rfl) rfl
theorem zqX12_goesBy : Cond.selects mX12_goesBy.2.1.cls mX12_goesBy.2.1 mX12_goesBy.2.1 ∈ zTb := zTb_k zTc0 (List.mem_of_getElem? (i := 94) rfl) rfl
theorem ziX12_judged : Cond.instanceMethod mX12_judged.2.1 ∈ zTb := zTb_k zTc7 (List.mem_of_getElem? (i := 208) rfl) rfl
theorem zqX12_judged : Cond.selects mX12_judged.2.1.cls mX12_judged.2.1 mX12_judged.2.1 ∈ zTb := zTb_k zTc7 (List.mem_of_getElem? (i := 209) rfl) rfl
theorem ziX12_then : Cond.instanceMethod mX12_then.2.1 ∈ zTb := zTb_k zTc8 (List.mem_of_getElem? (i := 9) rfl) rfl
theorem zqX12_then : Cond.selects mX12_then.2.1.cls mX12_then.2.1 mX12_then.2.1 ∈ zTb := zTb_k zTc8 (List.mem_of_getElem? (i := 10) rfl) rfl
theorem ziX12_holds : Cond.instanceMethod mX12_holds.2.1 ∈ zTb := zTb_k zTc8 (List.mem_of_getElem? (i := 13) rfl) rfl
theorem zqX12_holds : Cond.selects mX12_holds.2.1.cls mX12_holds.2.1 mX12_holds.2.1 ∈ zTb := zTb_k zTc8 (List.mem_of_getElem? (i := 14) rfl) rfl
theorem ziX12_surely : Cond.instanceMethod mX12_surely.2.1 ∈ zTb := zTb_k zTc8 (List.mem_of_getElem? (i := 18) rfl) rfl
theorem zqX12_surely : Cond.selects mX12_surely.2.1.cls mX12_surely.2.1 mX12_surely.2.1 ∈ zTb := zTb_k zTc8 (List.mem_of_getElem? (i := 19) rfl) rfl
theorem ziX12_asItIs : Cond.instanceMethod mX12_asItIs.2.1 ∈ zTb := zTb_k zTc8 (List.mem_of_getElem? (i := 28) rfl) rfl
theorem zqX12_asItIs : Cond.selects mX12_asItIs.2.1.cls mX12_asItIs.2.1 mX12_asItIs.2.1 ∈ zTb := zTb_k zTc0 (List.mem_of_getElem? (i := 102) rfl) rfl
theorem ziX12_gone : Cond.instanceMethod mX12_gone.2.1 ∈ zTb := zTb_k zTc8 (List.mem_of_getElem? (i := 40) rfl) rfl
theorem zqX12_gone : Cond.selects mX12_gone.2.1.cls mX12_gone.2.1 mX12_gone.2.1 ∈ zTb := zTb_k zTc0 (List.mem_of_getElem? (i := 105) rfl) rfl
theorem ziX12_leads : Cond.instanceMethod mX12_leads.2.1 ∈ zTb := zTb_k zTc8 (List.mem_of_getElem? (i := 44) rfl) rfl
theorem zqX12_leads : Cond.selects mX12_leads.2.1.cls mX12_leads.2.1 mX12_leads.2.1 ∈ zTb := zTb_k zTc0 (List.mem_of_getElem? (i := 106) rfl) rfl
theorem ziX12_fetchable : Cond.instanceMethod mX12_fetchable.2.1 ∈ zTb := zTb_k zTc8 (List.mem_of_getElem? (i := 36) rfl) rfl
theorem zqX12_fetchable : Cond.selects mX12_fetchable.2.1.cls mX12_fetchable.2.1 mX12_fetchable.2.1 ∈ zTb := zTb_k zTc0 (List.mem_of_getElem? (i := 104) rfl) rfl
theorem ziX12_plans : Cond.instanceMethod mX12_plans.2.1 ∈ zTb := zTb_k zTc8 (List.mem_of_getElem? (i := 32) rfl) rfl
theorem zqX12_plans : Cond.selects mX12_plans.2.1.cls mX12_plans.2.1 mX12_plans.2.1 ∈ zTb := zTb_k zTc0 (List.mem_of_getElem? (i := 103) rfl) rfl
theorem ziX12_planned : Cond.instanceMethod mX12_planned.2.1 ∈ zTb := zTb_k zTc8 (List.mem_of_getElem? (i := 61) rfl) rfl
theorem zqX12_planned : Cond.selects mX12_planned.2.1.cls mX12_planned.2.1 mX12_planned.2.1 ∈ zTb := zTb_k zTc0 (List.mem_of_getElem? (i := 109) rfl) rfl
theorem ziX12_atEnd : Cond.instanceMethod mX12_atEnd.2.1 ∈ zTb := zTb_k zTc8 (List.mem_of_getElem? (i := 57) rfl) rfl
theorem zqX12_atEnd : Cond.selects mX12_atEnd.2.1.cls mX12_atEnd.2.1 mX12_atEnd.2.1 ∈ zTb := zTb_k zTc0 (List.mem_of_getElem? (i := 108) rfl) rfl
theorem ziX12_mostCoin : Cond.instanceMethod mX12_mostCoin.2.1 ∈ zTb := zTb_k zTc8 (List.mem_of_getElem? (i := 53) rfl) rfl
theorem zqX12_mostCoin : Cond.selects mX12_mostCoin.2.1.cls mX12_mostCoin.2.1 mX12_mostCoin.2.1 ∈ zTb := zTb_k zTc0 (List.mem_of_getElem? (i := 107) rfl) rfl
theorem ziX12_soon : Cond.instanceMethod mX12_soon.2.1 ∈ zTb := zTb_k zTc8 (List.mem_of_getElem? (i := 23) rfl) rfl
theorem zqX12_soon : Cond.selects mX12_soon.2.1.cls mX12_soon.2.1 mX12_soon.2.1 ∈ zTb := zTb_k zTc8 (List.mem_of_getElem? (i := 24) rfl) rfl
theorem ziX12_states : Cond.instanceMethod mX12_states.2.1 ∈ zTb := zTb_k zTc8 (List.mem_of_getElem? (i := 65) rfl) rfl
theorem zqX12_states : Cond.selects mX12_states.2.1.cls mX12_states.2.1 mX12_states.2.1 ∈ zTb := zTb_k zTc0 (List.mem_of_getElem? (i := 110) rfl) rfl
theorem ziX12_richest : Cond.instanceMethod mX12_richest.2.1 ∈ zTb := zTb_k zTc8 (List.mem_of_getElem? (i := 69) rfl) rfl
theorem zqX12_richest : Cond.selects mX12_richest.2.1.cls mX12_richest.2.1 mX12_richest.2.1 ∈ zTb := zTb_k zTc0 (List.mem_of_getElem? (i := 111) rfl) rfl
theorem ziX12_best : Cond.instanceMethod mX12_best.2.1 ∈ zTb := zTb_k zTc8 (List.mem_of_getElem? (i := 47) rfl) rfl
theorem zqX12_best : Cond.selects mX12_best.2.1.cls mX12_best.2.1 mX12_best.2.1 ∈ zTb := zTb_k zTc8 (List.mem_of_getElem? (i := 48) rfl) rfl
theorem ziX12_goesBack : Cond.instanceMethod mX12_goesBack.2.1 ∈ zTb := zTb_k zTc8 (List.mem_of_getElem? (i := 77) rfl) rfl
theorem zqX12_goesBack : Cond.selects mX12_goesBack.2.1.cls mX12_goesBack.2.1 mX12_goesBack.2.1 ∈ zTb := zTb_k zTc0 (List.mem_of_getElem? (i := 112) rfl) rfl
theorem ziX12_fetched : Cond.instanceMethod mX12_fetched.2.1 ∈ zTb := zTb_k zTc8 (List.mem_of_getElem? (i := 72) rfl) rfl
theorem zqX12_fetched : Cond.selects mX12_fetched.2.1.cls mX12_fetched.2.1 mX12_fetched.2.1 ∈ zTb := zTb_k zTc8 (List.mem_of_getElem? (i := 73) rfl) rfl
theorem ziX12_without : Cond.instanceMethod mX12_without.2.1 ∈ zTb := zTb_k zTc8 (List.mem_of_getElem? (i := 93) rfl) rfl
theorem zqX12_without : Cond.selects mX12_without.2.1.cls mX12_without.2.1 mX12_without.2.1 ∈ zTb := zTb_k zTc0 (List.mem_of_getElem? (i := 115) rfl) rfl
theorem ziX12_asBest : Cond.instanceMethod mX12_asBest.2.1 ∈ zTb := zTb_k zTc8 (List.mem_of_getElem? (i := 85) rfl) rfl
theorem zqX12_asBest : Cond.selects mX12_asBest.2.1.cls mX12_asBest.2.1 mX12_asBest.2.1 ∈ zTb := zTb_k zTc0 (List.mem_of_getElem? (i := 113) rfl) rfl
theorem ziX12_hangsOn : Cond.instanceMethod mX12_hangsOn.2.1 ∈ zTb := zTb_k zTc8 (List.mem_of_getElem? (i := 89) rfl) rfl
theorem zqX12_hangsOn : Cond.selects mX12_hangsOn.2.1.cls mX12_hangsOn.2.1 mX12_hangsOn.2.1 ∈ zTb := zTb_k zTc0 (List.mem_of_getElem? (i := 114) rfl) rfl
theorem ziX12_hangs : Cond.instanceMethod mX12_hangs.2.1 ∈ zTb := zTb_k zTc8 (List.mem_of_getElem? (i := 80) rfl) rfl
theorem zqX12_hangs : Cond.selects mX12_hangs.2.1.cls mX12_hangs.2.1 mX12_hangs.2.1 ∈ zTb := zTb_k zTc8 (List.mem_of_getElem? (i := 81) rfl) rfl
theorem ziX12_key : Cond.instanceMethod mX12_key.2.1 ∈ zTb := zTb_k zTc8 (List.mem_of_getElem? (i := 96) rfl) rfl
theorem zqX12_key : Cond.selects mX12_key.2.1.cls mX12_key.2.1 mX12_key.2.1 ∈ zTb := zTb_k zTc8 (List.mem_of_getElem? (i := 97) rfl) rfl
theorem ziX12_wise : Cond.instanceMethod mX12_wise.2.1 ∈ zTb := zTb_k zTc8 (List.mem_of_getElem? (i := 100) rfl) rfl
theorem zqX12_wise : Cond.selects mX12_wise.2.1.cls mX12_wise.2.1 mX12_wise.2.1 ∈ zTb := zTb_k zTc8 (List.mem_of_getElem? (i := 101) rfl) rfl
theorem ziX12_borrowedIn : Cond.instanceMethod mX12_borrowedIn.2.1 ∈ zTb := zTb_k zTc8 (List.mem_of_getElem? (i := 115) rfl) rfl
theorem zqX12_borrowedIn : Cond.selects mX12_borrowedIn.2.1.cls mX12_borrowedIn.2.1 mX12_borrowedIn.2.1 ∈ zTb := zTb_k zTc0 (List.mem_of_getElem? (i := 117) rfl) rfl
theorem ziX12_borrowed : Cond.instanceMethod mX12_borrowed.2.1 ∈ zTb := zTb_k zTc8 (List.mem_of_getElem? (i := 106) rfl) rfl
theorem zqX12_borrowed : Cond.selects mX12_borrowed.2.1.cls mX12_borrowed.2.1 mX12_borrowed.2.1 ∈ zTb := zTb_k zTc8 (List.mem_of_getElem? (i := 107) rfl) rfl
theorem ziX12_when : Cond.instanceMethod mX12_when.2.1 ∈ zTb := zTb_k zTc8 (List.mem_of_getElem? (i := 118) rfl) rfl
theorem zqX12_when : Cond.selects mX12_when.2.1.cls mX12_when.2.1 mX12_when.2.1 ∈ zTb := zTb_k zTc8 (List.mem_of_getElem? (i := 119) rfl) rfl
theorem ziX12_soldBy : Cond.instanceMethod mX12_soldBy.2.1 ∈ zTb := zTb_k zTc8 (List.mem_of_getElem? (i := 127) rfl) rfl
theorem zqX12_soldBy : Cond.selects mX12_soldBy.2.1.cls mX12_soldBy.2.1 mX12_soldBy.2.1 ∈ zTb := zTb_k zTc0 (List.mem_of_getElem? (i := 118) rfl) rfl
theorem ziX12_sold : Cond.instanceMethod mX12_sold.2.1 ∈ zTb := zTb_k zTc8 (List.mem_of_getElem? (i := 122) rfl) rfl
theorem zqX12_sold : Cond.selects mX12_sold.2.1.cls mX12_sold.2.1 mX12_sold.2.1 ∈ zTb := zTb_k zTc8 (List.mem_of_getElem? (i := 123) rfl) rfl
theorem ziX12_selling : Cond.instanceMethod mX12_selling.2.1 ∈ zTb := zTb_k zTc8 (List.mem_of_getElem? (i := 130) rfl) rfl
theorem zqX12_selling : Cond.selects mX12_selling.2.1.cls mX12_selling.2.1 mX12_selling.2.1 ∈ zTb := zTb_k zTc8 (List.mem_of_getElem? (i := 131) rfl) rfl
theorem ziX12_isRule : Cond.instanceMethod mX12_isRule.2.1 ∈ zTb := zTb_k zTc8 (List.mem_of_getElem? (i := 139) rfl) rfl
theorem zqX12_isRule : Cond.selects mX12_isRule.2.1.cls mX12_isRule.2.1 mX12_isRule.2.1 ∈ zTb := zTb_k zTc0 (List.mem_of_getElem? (i := 119) rfl) rfl
theorem ziX12_likesIt : Cond.instanceMethod mX12_likesIt.2.1 ∈ zTb := zTb_k zTc8 (List.mem_of_getElem? (i := 144) rfl) rfl
theorem zqX12_likesIt : Cond.selects mX12_likesIt.2.1.cls mX12_likesIt.2.1 mX12_likesIt.2.1 ∈ zTb := zTb_k zTc0 (List.mem_of_getElem? (i := 120) rfl) rfl
theorem ziX12_likes : Cond.instanceMethod mX12_likes.2.1 ∈ zTb := zTb_k zTc8 (List.mem_of_getElem? (i := 134) rfl) rfl
theorem zqX12_likes : Cond.selects mX12_likes.2.1.cls mX12_likes.2.1 mX12_likes.2.1 ∈ zTb := zTb_k zTc8 (List.mem_of_getElem? (i := 135) rfl) rfl
theorem ziX12_keeps : Cond.instanceMethod mX12_keeps.2.1 ∈ zTb := zTb_k zTc8 (List.mem_of_getElem? (i := 162) rfl) rfl
theorem zqX12_keeps : Cond.selects mX12_keeps.2.1.cls mX12_keeps.2.1 mX12_keeps.2.1 ∈ zTb := zTb_k zTc0 (List.mem_of_getElem? (i := 123) rfl) rfl
theorem ziX12_nextOf : Cond.instanceMethod mX12_nextOf.2.1 ∈ zTb := zTb_k zTc8 (List.mem_of_getElem? (i := 158) rfl) rfl
theorem zqX12_nextOf : Cond.selects mX12_nextOf.2.1.cls mX12_nextOf.2.1 mX12_nextOf.2.1 ∈ zTb := zTb_k zTc0 (List.mem_of_getElem? (i := 122) rfl) rfl
theorem ziX12_follows : Cond.instanceMethod mX12_follows.2.1 ∈ zTb := zTb_k zTc8 (List.mem_of_getElem? (i := 154) rfl) rfl
theorem zqX12_follows : Cond.selects mX12_follows.2.1.cls mX12_follows.2.1 mX12_follows.2.1 ∈ zTb := zTb_k zTc0 (List.mem_of_getElem? (i := 121) rfl) rfl
theorem ziX12_ruled : Cond.instanceMethod mX12_ruled.2.1 ∈ zTb := zTb_k zTc8 (List.mem_of_getElem? (i := 148) rfl) rfl
theorem zqX12_ruled : Cond.selects mX12_ruled.2.1.cls mX12_ruled.2.1 mX12_ruled.2.1 ∈ zTb := zTb_k zTc8 (List.mem_of_getElem? (i := 149) rfl) rfl
theorem ziX12_finest : Cond.instanceMethod mX12_finest.2.1 ∈ zTb := zTb_k zTc8 (List.mem_of_getElem? (i := 165) rfl) rfl
theorem zqX12_finest : Cond.selects mX12_finest.2.1.cls mX12_finest.2.1 mX12_finest.2.1 ∈ zTb := zTb_k zTc8 (List.mem_of_getElem? (i := 166) rfl) rfl
theorem ziX12_parts : Cond.instanceMethod mX12_parts.2.1 ∈ zTb := zTb_k zTc8 (List.mem_of_getElem? (i := 169) rfl) rfl
theorem zqX12_parts : Cond.selects mX12_parts.2.1.cls mX12_parts.2.1 mX12_parts.2.1 ∈ zTb := zTb_k zTc8 (List.mem_of_getElem? (i := 170) rfl) rfl
theorem ziX12_goes : Cond.instanceMethod mX12_goes.2.1 ∈ zTb := zTb_k zTc8 (List.mem_of_getElem? (i := 173) rfl) rfl
theorem zqX12_goes : Cond.selects mX12_goes.2.1.cls mX12_goes.2.1 mX12_goes.2.1 ∈ zTb := zTb_k zTc8 (List.mem_of_getElem? (i := 174) rfl) rfl
theorem ziX12_most : Cond.instanceMethod mX12_most.2.1 ∈ zTb := zTb_k zTc8 (List.mem_of_getElem? (i := 177) rfl) rfl
theorem zqX12_most : Cond.selects mX12_most.2.1.cls mX12_most.2.1 mX12_most.2.1 ∈ zTb := zTb_k zTc8 (List.mem_of_getElem? (i := 178) rfl) rfl
theorem ziX12_needed : Cond.instanceMethod mX12_needed.2.1 ∈ zTb := zTb_k zTc8 (List.mem_of_getElem? (i := 181) rfl) rfl
theorem zqX12_needed : Cond.selects mX12_needed.2.1.cls mX12_needed.2.1 mX12_needed.2.1 ∈ zTb := zTb_k zTc8 (List.mem_of_getElem? (i := 182) rfl) rfl
theorem ziX12_pays : Cond.instanceMethod mX12_pays.2.1 ∈ zTb := zTb_k zTc8 (List.mem_of_getElem? (i := 185) rfl) rfl
theorem zqX12_pays : Cond.selects mX12_pays.2.1.cls mX12_pays.2.1 mX12_pays.2.1 ∈ zTb := zTb_k zTc8 (List.mem_of_getElem? (i := 186) rfl) rfl
theorem ziX12_carry : Cond.instanceMethod mX12_carry.2.1 ∈ zTb := zTb_k zTc8 (List.mem_of_getElem? (i := 198) rfl) rfl
theorem zqX12_carry : Cond.selects mX12_carry.2.1.cls mX12_carry.2.1 mX12_carry.2.1 ∈ zTb := zTb_k zTc0 (List.mem_of_getElem? (i := 125) rfl) rfl
theorem ziX12_carries : Cond.instanceMethod mX12_carries.2.1 ∈ zTb := zTb_k zTc8 (List.mem_of_getElem? (i := 194) rfl) rfl
theorem zqX12_carries : Cond.selects mX12_carries.2.1.cls mX12_carries.2.1 mX12_carries.2.1 ∈ zTb := zTb_k zTc0 (List.mem_of_getElem? (i := 124) rfl) rfl
theorem ziX12_image : Cond.instanceMethod mX12_image.2.1 ∈ zTb := zTb_k zTc8 (List.mem_of_getElem? (i := 189) rfl) rfl
theorem zqX12_image : Cond.selects mX12_image.2.1.cls mX12_image.2.1 mX12_image.2.1 ∈ zTb := zTb_k zTc8 (List.mem_of_getElem? (i := 190) rfl) rfl
theorem ziX12_back : Cond.instanceMethod mX12_back.2.1 ∈ zTb := zTb_k zTc8 (List.mem_of_getElem? (i := 201) rfl) rfl
theorem zqX12_back : Cond.selects mX12_back.2.1.cls mX12_back.2.1 mX12_back.2.1 ∈ zTb := zTb_k zTc8 (List.mem_of_getElem? (i := 202) rfl) rfl
theorem zsJ6_bitCount_0f7a4 : Cond.static mJ6_bitCount_0f7a4.2.1 ∈ zTb := zTb_k zTc3 (List.mem_of_getElem? (i := 231) rfl) rfl
theorem ziJ0_length_8abf5 : Cond.instanceMethod mJ0_length_8abf5.2.1 ∈ zTb := zTb_k zTc3 (List.mem_of_getElem? (i := 63) rfl) rfl
theorem zqJ0_length_8abf5 : Cond.selects mJ0_length_8abf5.2.1.cls mJ0_length_8abf5.2.1 mJ0_length_8abf5.2.1 ∈ zTb := zTb_k zTc3 (List.mem_of_getElem? (i := 64) rfl) rfl
theorem ziJ0_charAt_5068e : Cond.instanceMethod mJ0_charAt_5068e.2.1 ∈ zTb := zTb_k zTc3 (List.mem_of_getElem? (i := 73) rfl) rfl
theorem zqJ0_charAt_5068e : Cond.selects mJ0_charAt_5068e.2.1.cls mJ0_charAt_5068e.2.1 mJ0_charAt_5068e.2.1 ∈ zTb := zTb_k zTc3 (List.mem_of_getElem? (i := 74) rfl) rfl
theorem ziJ0_coder_7d493 : Cond.instanceMethod mJ0_coder_7d493.2.1 ∈ zTb := zTb_k zTc3 (List.mem_of_getElem? (i := 67) rfl) rfl
theorem zqJ0_coder_7d493 : Cond.selects mJ0_coder_7d493.2.1.cls mJ0_coder_7d493.2.1 mJ0_coder_7d493.2.1 ∈ zTb := zTb_k zTc3 (List.mem_of_getElem? (i := 68) rfl) rfl
theorem ziJ0_isLatin1_aae02 : Cond.instanceMethod mJ0_isLatin1_aae02.2.1 ∈ zTb := zTb_k zTc3 (List.mem_of_getElem? (i := 77) rfl) rfl
theorem zqJ0_isLatin1_aae02 : Cond.selects mJ0_isLatin1_aae02.2.1.cls mJ0_isLatin1_aae02.2.1 mJ0_isLatin1_aae02.2.1 ∈ zTb := zTb_k zTc3 (List.mem_of_getElem? (i := 78) rfl) rfl
theorem zsJ0_checkIndex_df160 : Cond.static mJ0_checkIndex_df160.2.1 ∈ zTb := zTb_k zTc3 (List.mem_of_getElem? (i := 84) rfl) rfl
theorem zsJ1_charAt_3b067 : Cond.static mJ1_charAt_3b067.2.1 ∈ zTb := zTb_k zTc3 (List.mem_of_getElem? (i := 81) rfl) rfl
theorem zsJ3_checkIndex_8e157 : Cond.static mJ3_checkIndex_8e157.2.1 ∈ zTb := zTb_k zTc3 (List.mem_of_getElem? (i := 89) rfl) rfl
theorem znX2_28 : Cond.constant RX2 28 (131071) ∈ zTb := zTb_k zTc3 (List.mem_of_getElem? (i := 192) rfl) rfl
theorem znJ6_265 : Cond.constant RJ6 265 (1431655765) ∈ zTb := zTb_k zTc3 (List.mem_of_getElem? (i := 233) rfl) rfl
theorem znJ6_266 : Cond.constant RJ6 266 (858993459) ∈ zTb := zTb_k zTc3 (List.mem_of_getElem? (i := 234) rfl) rfl
theorem znJ6_267 : Cond.constant RJ6 267 (252645135) ∈ zTb := zTb_k zTc3 (List.mem_of_getElem? (i := 235) rfl) rfl
theorem znX11_262 : Cond.constant RX11 262 (-2000000) ∈ zTb := zTb_k zTc5 (List.mem_of_getElem? (i := 67) rfl) rfl
theorem znX11_266 : Cond.constant RX11 266 (-1000000) ∈ zTb := zTb_k zTc5 (List.mem_of_getElem? (i := 72) rfl) rfl
theorem znX11_285 : Cond.constant RX11 285 (99999) ∈ zTb := zTb_k zTc5 (List.mem_of_getElem? (i := 125) rfl) rfl
theorem znX12_234 : Cond.constant RX12 234 (99999) ∈ zTb := zTb_k zTc7 (List.mem_of_getElem? (i := 29) rfl) rfl
theorem znX12_524 : Cond.constant RX12 524 (-2000000) ∈ zTb := zTb_k zTc8 (List.mem_of_getElem? (i := 103) rfl) rfl
theorem znX12_525 : Cond.constant RX12 525 (-1000000) ∈ zTb := zTb_k zTc8 (List.mem_of_getElem? (i := 104) rfl) rfl
theorem znX11_199 : Cond.constantLong RX11 199 (-1) ∈ zTb := zTb_k zTc4 (List.mem_of_getElem? (i := 106) rfl) rfl
theorem znX4_194 : Cond.constantLong RX4 194 (9999) ∈ zTb := zTb_k zTc5 (List.mem_of_getElem? (i := 132) rfl) rfl
theorem znX3_15 : Cond.constantLong RX3 15 (1103515245) ∈ zTb := zTb_k zTc5 (List.mem_of_getElem? (i := 172) rfl) rfl
theorem znX3_17 : Cond.constantLong RX3 17 (12345) ∈ zTb := zTb_k zTc5 (List.mem_of_getElem? (i := 173) rfl) rfl
theorem znX3_19 : Cond.constantLong RX3 19 (2147483648) ∈ zTb := zTb_k zTc5 (List.mem_of_getElem? (i := 174) rfl) rfl
theorem znX3_21 : Cond.constantLong RX3 21 (65536) ∈ zTb := zTb_k zTc5 (List.mem_of_getElem? (i := 175) rfl) rfl
theorem znX3_23 : Cond.constantLong RX3 23 (1000) ∈ zTb := zTb_k zTc5 (List.mem_of_getElem? (i := 176) rfl) rfl
theorem znX11_323 : Cond.constantLong RX11 323 (1000000000) ∈ zTb := zTb_k zTc5 (List.mem_of_getElem? (i := 190) rfl) rfl
theorem znX11_325 : Cond.constantLong RX11 325 (1000) ∈ zTb := zTb_k zTc5 (List.mem_of_getElem? (i := 191) rfl) rfl
theorem znX12_197 : Cond.constantLong RX12 197 (48) ∈ zTb := zTb_k zTc7 (List.mem_of_getElem? (i := 12) rfl) rfl
theorem znX12_199 : Cond.constantLong RX12 199 (57) ∈ zTb := zTb_k zTc7 (List.mem_of_getElem? (i := 13) rfl) rfl
theorem znX12_287 : Cond.constantLong RX12 287 (97) ∈ zTb := zTb_k zTc7 (List.mem_of_getElem? (i := 111) rfl) rfl
theorem znX12_289 : Cond.constantLong RX12 289 (104) ∈ zTb := zTb_k zTc7 (List.mem_of_getElem? (i := 112) rfl) rfl
theorem znX12_371 : Cond.constantLong RX12 371 (7) ∈ zTb := zTb_k zTc7 (List.mem_of_getElem? (i := 155) rfl) rfl
theorem znX12_373 : Cond.constantLong RX12 373 (60) ∈ zTb := zTb_k zTc7 (List.mem_of_getElem? (i := 171) rfl) rfl
theorem znX12_399 : Cond.constantLong RX12 399 (4) ∈ zTb := zTb_k zTc7 (List.mem_of_getElem? (i := 202) rfl) rfl
theorem znX12_427 : Cond.constantLong RX12 427 (1103515245) ∈ zTb := zTb_k zTc7 (List.mem_of_getElem? (i := 223) rfl) rfl
theorem znX12_429 : Cond.constantLong RX12 429 (12345) ∈ zTb := zTb_k zTc7 (List.mem_of_getElem? (i := 224) rfl) rfl
theorem znX12_431 : Cond.constantLong RX12 431 (2147483648) ∈ zTb := zTb_k zTc7 (List.mem_of_getElem? (i := 225) rfl) rfl
theorem znX12_433 : Cond.constantLong RX12 433 (65536) ∈ zTb := zTb_k zTc7 (List.mem_of_getElem? (i := 226) rfl) rfl
theorem znX12_435 : Cond.constantLong RX12 435 (1000) ∈ zTb := zTb_k zTc7 (List.mem_of_getElem? (i := 227) rfl) rfl
theorem znX12_457 : Cond.constantLong RX12 457 (100) ∈ zTb := zTb_k zTc8 (List.mem_of_getElem? (i := 16) rfl) rfl
theorem znX12_459 : Cond.constantLong RX12 459 (1000000000) ∈ zTb := zTb_k zTc8 (List.mem_of_getElem? (i := 21) rfl) rfl
theorem znX12_500 : Cond.constantLong RX12 500 (5) ∈ zTb := zTb_k zTc8 (List.mem_of_getElem? (i := 50) rfl) rfl
theorem znX12_540 : Cond.constantLong RX12 540 (99999) ∈ zTb := zTb_k zTc8 (List.mem_of_getElem? (i := 141) rfl) rfl
theorem znX12_535 : Cond.constantLong RX12 535 (9999) ∈ zTb := zTb_k zTc8 (List.mem_of_getElem? (i := 146) rfl) rfl
theorem znX12_552 : Cond.constantLong RX12 552 (3) ∈ zTb := zTb_k zTc8 (List.mem_of_getElem? (i := 151) rfl) rfl
theorem zwL_7 : Cond.classLink RL 7 RX11 ∈ zTb := zTb_k zTc1 (List.mem_of_getElem? (i := 21) rfl) rfl
theorem zwX11_13 : Cond.classLink RX11 13 RX6 ∈ zTb := zTb_k zTc1 (List.mem_of_getElem? (i := 29) rfl) rfl
theorem zwX6_9 : Cond.classLink RX6 9 RX10 ∈ zTb := zTb_k zTc1 (List.mem_of_getElem? (i := 35) rfl) rfl
theorem zwX11_20 : Cond.classLink RX11 20 RX0 ∈ zTb := zTb_k zTc1 (List.mem_of_getElem? (i := 89) rfl) rfl
theorem zwX0_30 : Cond.classLink RX0 30 RX1 ∈ zTb := zTb_k zTc1 (List.mem_of_getElem? (i := 95) rfl) rfl
theorem zwX0_40 : Cond.classLink RX0 40 RX2 ∈ zTb := zTb_k zTc1 (List.mem_of_getElem? (i := 116) rfl) rfl
theorem zwX11_30 : Cond.classLink RX11 30 RX7 ∈ zTb := zTb_k zTc1 (List.mem_of_getElem? (i := 236) rfl) rfl
theorem zwX11_37 : Cond.classLink RX11 37 RX8 ∈ zTb := zTb_k zTc2 (List.mem_of_getElem? (i := 20) rfl) rfl
theorem zwX8_18 : Cond.classLink RX8 18 RX2 ∈ zTb := zTb_k zTc2 (List.mem_of_getElem? (i := 27) rfl) rfl
theorem zwX11_56 : Cond.classLink RX11 56 RX9 ∈ zTb := zTb_k zTc2 (List.mem_of_getElem? (i := 51) rfl) rfl
theorem zwX11_63 : Cond.classLink RX11 63 RX4 ∈ zTb := zTb_k zTc2 (List.mem_of_getElem? (i := 68) rfl) rfl
theorem zwX4_19 : Cond.classLink RX4 19 RX9 ∈ zTb := zTb_k zTc2 (List.mem_of_getElem? (i := 74) rfl) rfl
theorem zwX11_72 : Cond.classLink RX11 72 RX5 ∈ zTb := zTb_k zTc2 (List.mem_of_getElem? (i := 137) rfl) rfl
theorem zwX11_79 : Cond.classLink RX11 79 RX3 ∈ zTb := zTb_k zTc2 (List.mem_of_getElem? (i := 195) rfl) rfl
theorem zwL_10 : Cond.classLink RL 10 RX12 ∈ zTb := zTb_k zTc5 (List.mem_of_getElem? (i := 218) rfl) rfl
theorem zvX11 : Cond.instantiable RX11 16 ∈ zTb := zTb_k zTc1 (List.mem_of_getElem? (i := 22) rfl) rfl
theorem zvX6 : Cond.instantiable RX6 10 ∈ zTb := zTb_k zTc1 (List.mem_of_getElem? (i := 30) rfl) rfl
theorem zvX10 : Cond.instantiable RX10 4 ∈ zTb := zTb_k zTc1 (List.mem_of_getElem? (i := 36) rfl) rfl
theorem zvX0 : Cond.instantiable RX0 15 ∈ zTb := zTb_k zTc1 (List.mem_of_getElem? (i := 90) rfl) rfl
theorem zvX1 : Cond.instantiable RX1 4 ∈ zTb := zTb_k zTc1 (List.mem_of_getElem? (i := 96) rfl) rfl
theorem zvX2 : Cond.instantiable RX2 3 ∈ zTb := zTb_k zTc1 (List.mem_of_getElem? (i := 117) rfl) rfl
theorem zvX7 : Cond.instantiable RX7 4 ∈ zTb := zTb_k zTc1 (List.mem_of_getElem? (i := 237) rfl) rfl
theorem zvX8 : Cond.instantiable RX8 5 ∈ zTb := zTb_k zTc2 (List.mem_of_getElem? (i := 22) rfl) rfl
theorem zvX9 : Cond.instantiable RX9 2 ∈ zTb := zTb_k zTc2 (List.mem_of_getElem? (i := 52) rfl) rfl
theorem zvX4 : Cond.instantiable RX4 17 ∈ zTb := zTb_k zTc2 (List.mem_of_getElem? (i := 69) rfl) rfl
theorem zvX5 : Cond.instantiable RX5 15 ∈ zTb := zTb_k zTc2 (List.mem_of_getElem? (i := 138) rfl) rfl
theorem zvX3 : Cond.instantiable RX3 1 ∈ zTb := zTb_k zTc2 (List.mem_of_getElem? (i := 196) rfl) rfl
theorem zvX12 : Cond.instantiable RX12 68 ∈ zTb := zTb_k zTc5 (List.mem_of_getElem? (i := 219) rfl) rfl
theorem zjX11 : Cond.initialized RX11 ∈ zTb := zTb_k zTc1 (List.mem_of_getElem? (i := 1) rfl) rfl
theorem zjX6 : Cond.initialized RX6 ∈ zTb := zTb_k zTc1 (List.mem_of_getElem? (i := 2) rfl) rfl
theorem zjX10 : Cond.initialized RX10 ∈ zTb := zTb_k zTc1 (List.mem_of_getElem? (i := 3) rfl) rfl
theorem zjX0 : Cond.initialized RX0 ∈ zTb := zTb_k zTc1 (List.mem_of_getElem? (i := 4) rfl) rfl
theorem zjX1 : Cond.initialized RX1 ∈ zTb := zTb_k zTc1 (List.mem_of_getElem? (i := 5) rfl) rfl
theorem zjX2 : Cond.initialized RX2 ∈ zTb := zTb_k zTc1 (List.mem_of_getElem? (i := 6) rfl) rfl
theorem zjX7 : Cond.initialized RX7 ∈ zTb := zTb_k zTc1 (List.mem_of_getElem? (i := 7) rfl) rfl
theorem zjX8 : Cond.initialized RX8 ∈ zTb := zTb_k zTc1 (List.mem_of_getElem? (i := 8) rfl) rfl
theorem zjX9 : Cond.initialized RX9 ∈ zTb := zTb_k zTc1 (List.mem_of_getElem? (i := 9) rfl) rfl
theorem zjX4 : Cond.initialized RX4 ∈ zTb := zTb_k zTc1 (List.mem_of_getElem? (i := 10) rfl) rfl
theorem zjX5 : Cond.initialized RX5 ∈ zTb := zTb_k zTc1 (List.mem_of_getElem? (i := 11) rfl) rfl
theorem zjX3 : Cond.initialized RX3 ∈ zTb := zTb_k zTc1 (List.mem_of_getElem? (i := 12) rfl) rfl
theorem zjX12 : Cond.initialized RX12 ∈ zTb := zTb_k zTc1 (List.mem_of_getElem? (i := 13) rfl) rfl
theorem zjJ0 : Cond.initialized RJ0 ∈ zTb := zTb_k zTc1 (List.mem_of_getElem? (i := 14) rfl) rfl
theorem zjJ1 : Cond.initialized RJ1 ∈ zTb := zTb_k zTc1 (List.mem_of_getElem? (i := 15) rfl) rfl
theorem zjJ3 : Cond.initialized RJ3 ∈ zTb := zTb_k zTc1 (List.mem_of_getElem? (i := 16) rfl) rfl
theorem zjJ2 : Cond.initialized RJ2 ∈ zTb := zTb_k zTc1 (List.mem_of_getElem? (i := 17) rfl) rfl
theorem zjJ10 : Cond.initialized RJ10 ∈ zTb := zTb_k zTc1 (List.mem_of_getElem? (i := 18) rfl) rfl
theorem zjJ6 : Cond.initialized RJ6 ∈ zTb := zTb_k zTc1 (List.mem_of_getElem? (i := 19) rfl) rfl
theorem zjJ9 : Cond.initialized RJ9 ∈ zTb := zTb_k zTc1 (List.mem_of_getElem? (i := 20) rfl) rfl
theorem zoi_inst : Cond.instanceMethod objectInit ∈ zTb := zTb_k zTc1 (List.mem_of_getElem? (i := 27) rfl) rfl
theorem zoi_code : Cond.code objectInit ⟨#[0xb1]⟩ 1 none ∈ zTb := zTb_k zTc1 (List.mem_of_getElem? (i := 28) rfl) rfl
theorem zac_int : Cond.arrayClass .int ∈ zTb := zTb_k zTc1 (List.mem_of_getElem? (i := 57) rfl) rfl
theorem zac_boolean : Cond.arrayClass .boolean ∈ zTb := zTb_k zTc2 (List.mem_of_getElem? (i := 66) rfl) rfl
theorem zac_long : Cond.arrayClass .long ∈ zTb := zTb_k zTc2 (List.mem_of_getElem? (i := 67) rfl) rfl
theorem zcp_static : Cond.static arraycopyName ∈ zTb := zTb_k zTc3 (List.mem_of_getElem? (i := 218) rfl) rfl
theorem zcp_native : Cond.native arraycopyName ∈ zTb := zTb_k zTc3 (List.mem_of_getElem? (i := 219) rfl) rfl
theorem zac_byte : Cond.arrayClass .byte ∈ zTb := zTb_k zTc3 (List.mem_of_getElem? (i := 236) rfl) rfl
theorem zmmax_static : Cond.static Lib.Math.max.name ∈ zTb := zTb_k zTc4 (List.mem_of_getElem? (i := 209) rfl) rfl
theorem zmmax_code : Cond.code Lib.Math.max.name Lib.Math.max.code 2 (some .int) ∈ zTb := zTb_k zTc4 (List.mem_of_getElem? (i := 210) rfl) rfl
theorem zmmin_static : Cond.static Lib.Math.min.name ∈ zTb := zTb_k zTc5 (List.mem_of_getElem? (i := 6) rfl) rfl
theorem zmmin_code : Cond.code Lib.Math.min.name Lib.Math.min.code 2 (some .int) ∈ zTb := zTb_k zTc5 (List.mem_of_getElem? (i := 7) rfl) rfl
theorem zoX11_1 : Cond.methodLink RX11 1 objectInit ∈ zTb := zTb_k zTc1 (List.mem_of_getElem? (i := 26) rfl) rfl
theorem zoX6_3 : Cond.methodLink RX6 3 objectInit ∈ zTb := zTb_k zTc1 (List.mem_of_getElem? (i := 34) rfl) rfl
theorem zoX10_3 : Cond.methodLink RX10 3 objectInit ∈ zTb := zTb_k zTc1 (List.mem_of_getElem? (i := 40) rfl) rfl
theorem zoX0_3 : Cond.methodLink RX0 3 objectInit ∈ zTb := zTb_k zTc1 (List.mem_of_getElem? (i := 94) rfl) rfl
theorem zoX1_3 : Cond.methodLink RX1 3 objectInit ∈ zTb := zTb_k zTc1 (List.mem_of_getElem? (i := 100) rfl) rfl
theorem zoX2_3 : Cond.methodLink RX2 3 objectInit ∈ zTb := zTb_k zTc1 (List.mem_of_getElem? (i := 121) rfl) rfl
theorem zoX7_3 : Cond.methodLink RX7 3 objectInit ∈ zTb := zTb_k zTc2 (List.mem_of_getElem? (i := 1) rfl) rfl
theorem zoX8_3 : Cond.methodLink RX8 3 objectInit ∈ zTb := zTb_k zTc2 (List.mem_of_getElem? (i := 26) rfl) rfl
theorem zoX9_3 : Cond.methodLink RX9 3 objectInit ∈ zTb := zTb_k zTc2 (List.mem_of_getElem? (i := 56) rfl) rfl
theorem zoX4_3 : Cond.methodLink RX4 3 objectInit ∈ zTb := zTb_k zTc2 (List.mem_of_getElem? (i := 73) rfl) rfl
theorem zoX5_3 : Cond.methodLink RX5 3 objectInit ∈ zTb := zTb_k zTc2 (List.mem_of_getElem? (i := 142) rfl) rfl
theorem zoX3_3 : Cond.methodLink RX3 3 objectInit ∈ zTb := zTb_k zTc2 (List.mem_of_getElem? (i := 200) rfl) rfl
theorem zxX0_73 : Cond.methodLink RX0 73 arraycopyName ∈ zTb := zTb_k zTc3 (List.mem_of_getElem? (i := 217) rfl) rfl
theorem zxX1_21 : Cond.methodLink RX1 21 arraycopyName ∈ zTb := zTb_k zTc3 (List.mem_of_getElem? (i := 224) rfl) rfl
theorem zxX2_22 : Cond.methodLink RX2 22 arraycopyName ∈ zTb := zTb_k zTc3 (List.mem_of_getElem? (i := 229) rfl) rfl
theorem zxX5_127 : Cond.methodLink RX5 127 Lib.Math.max.name ∈ zTb := zTb_k zTc4 (List.mem_of_getElem? (i := 208) rfl) rfl
theorem zxX5_85 : Cond.methodLink RX5 85 arraycopyName ∈ zTb := zTb_k zTc4 (List.mem_of_getElem? (i := 229) rfl) rfl
theorem zxX5_164 : Cond.methodLink RX5 164 Lib.Math.min.name ∈ zTb := zTb_k zTc5 (List.mem_of_getElem? (i := 5) rfl) rfl
theorem zxX11_298 : Cond.methodLink RX11 298 arraycopyName ∈ zTb := zTb_k zTc5 (List.mem_of_getElem? (i := 160) rfl) rfl
theorem zxX7_21 : Cond.methodLink RX7 21 arraycopyName ∈ zTb := zTb_k zTc5 (List.mem_of_getElem? (i := 213) rfl) rfl
theorem zoX12_1 : Cond.methodLink RX12 1 objectInit ∈ zTb := zTb_k zTc5 (List.mem_of_getElem? (i := 223) rfl) rfl
