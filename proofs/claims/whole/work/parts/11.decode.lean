theorem dX0_init_0 : decode cX0_init 0 = .ok (.aload_n 0, 1) := by decide +kernel
theorem dX0_init_1 : decode cX0_init 1 = .ok (.invokespecial 3, 3) := by decide +kernel
theorem dX0_init_4 : decode cX0_init 4 = .ok (.aload_n 0, 1) := by decide +kernel
theorem dX0_init_5 : decode cX0_init 5 = .ok (.bipush 8, 2) := by decide +kernel
theorem dX0_init_7 : decode cX0_init 7 = .ok (.newarray .int, 2) := by decide +kernel
theorem dX0_init_9 : decode cX0_init 9 = .ok (.putfield 9, 3) := by decide +kernel
theorem dX0_init_12 : decode cX0_init 12 = .ok (.aload_n 0, 1) := by decide +kernel
theorem dX0_init_13 : decode cX0_init 13 = .ok (.bipush 8, 2) := by decide +kernel
theorem dX0_init_15 : decode cX0_init 15 = .ok (.newarray .int, 2) := by decide +kernel
theorem dX0_init_17 : decode cX0_init 17 = .ok (.putfield 15, 3) := by decide +kernel
theorem dX0_init_20 : decode cX0_init 20 = .ok (.aload_n 0, 1) := by decide +kernel
theorem dX0_init_21 : decode cX0_init 21 = .ok (.bipush 8, 2) := by decide +kernel
theorem dX0_init_23 : decode cX0_init 23 = .ok (.newarray .int, 2) := by decide +kernel
theorem dX0_init_25 : decode cX0_init 25 = .ok (.putfield 18, 3) := by decide +kernel
theorem dX0_init_28 : decode cX0_init 28 = .ok (.aload_n 0, 1) := by decide +kernel
theorem dX0_init_29 : decode cX0_init 29 = .ok (.bipush 8, 2) := by decide +kernel
theorem dX0_init_31 : decode cX0_init 31 = .ok (.newarray .int, 2) := by decide +kernel
theorem dX0_init_33 : decode cX0_init 33 = .ok (.putfield 21, 3) := by decide +kernel
theorem dX0_init_36 : decode cX0_init 36 = .ok (.aload_n 0, 1) := by decide +kernel
theorem dX0_init_37 : decode cX0_init 37 = .ok (.bipush 8, 2) := by decide +kernel
theorem dX0_init_39 : decode cX0_init 39 = .ok (.newarray .int, 2) := by decide +kernel
theorem dX0_init_41 : decode cX0_init 41 = .ok (.putfield 24, 3) := by decide +kernel
theorem dX0_init_44 : decode cX0_init 44 = .ok (.aload_n 0, 1) := by decide +kernel
theorem dX0_init_45 : decode cX0_init 45 = .ok (.bipush 8, 2) := by decide +kernel
theorem dX0_init_47 : decode cX0_init 47 = .ok (.newarray .int, 2) := by decide +kernel
theorem dX0_init_49 : decode cX0_init 49 = .ok (.putfield 27, 3) := by decide +kernel
theorem dX0_init_52 : decode cX0_init 52 = .ok (.aload_n 0, 1) := by decide +kernel
theorem dX0_init_53 : decode cX0_init 53 = .ok (.new 30, 3) := by decide +kernel
theorem dX0_init_56 : decode cX0_init 56 = .ok (.dup, 1) := by decide +kernel
theorem dX0_init_57 : decode cX0_init 57 = .ok (.invokespecial 32, 3) := by decide +kernel
theorem dX0_init_60 : decode cX0_init 60 = .ok (.putfield 33, 3) := by decide +kernel
theorem dX0_init_63 : decode cX0_init 63 = .ok (.aload_n 0, 1) := by decide +kernel
theorem dX0_init_64 : decode cX0_init 64 = .ok (.new 30, 3) := by decide +kernel
theorem dX0_init_67 : decode cX0_init 67 = .ok (.dup, 1) := by decide +kernel
theorem dX0_init_68 : decode cX0_init 68 = .ok (.invokespecial 32, 3) := by decide +kernel
theorem dX0_init_71 : decode cX0_init 71 = .ok (.putfield 37, 3) := by decide +kernel
theorem dX0_init_74 : decode cX0_init 74 = .ok (.aload_n 0, 1) := by decide +kernel
theorem dX0_init_75 : decode cX0_init 75 = .ok (.new 40, 3) := by decide +kernel
theorem dX0_init_78 : decode cX0_init 78 = .ok (.dup, 1) := by decide +kernel
theorem dX0_init_79 : decode cX0_init 79 = .ok (.invokespecial 42, 3) := by decide +kernel
theorem dX0_init_82 : decode cX0_init 82 = .ok (.putfield 43, 3) := by decide +kernel
theorem dX0_init_85 : decode cX0_init 85 = .ok (.aload_n 0, 1) := by decide +kernel
theorem dX0_init_86 : decode cX0_init 86 = .ok (.invokevirtual 47, 3) := by decide +kernel
theorem dX0_init_89 : decode cX0_init 89 = .ok (.return_, 1) := by decide +kernel
theorem dX0_clear_0 : decode cX0_clear 0 = .ok (.aload_n 0, 1) := by decide +kernel
theorem dX0_clear_1 : decode cX0_clear 1 = .ok (.iconst 0, 1) := by decide +kernel
theorem dX0_clear_2 : decode cX0_clear 2 = .ok (.putfield 50, 3) := by decide +kernel
theorem dX0_clear_5 : decode cX0_clear 5 = .ok (.aload_n 0, 1) := by decide +kernel
theorem dX0_clear_6 : decode cX0_clear 6 = .ok (.bipush 12, 2) := by decide +kernel
theorem dX0_clear_8 : decode cX0_clear 8 = .ok (.putfield 54, 3) := by decide +kernel
theorem dX0_clear_11 : decode cX0_clear 11 = .ok (.aload_n 0, 1) := by decide +kernel
theorem dX0_clear_12 : decode cX0_clear 12 = .ok (.iconst 0, 1) := by decide +kernel
theorem dX0_clear_13 : decode cX0_clear 13 = .ok (.putfield 57, 3) := by decide +kernel
theorem dX0_clear_16 : decode cX0_clear 16 = .ok (.aload_n 0, 1) := by decide +kernel
theorem dX0_clear_17 : decode cX0_clear 17 = .ok (.sipush 1000, 3) := by decide +kernel
theorem dX0_clear_20 : decode cX0_clear 20 = .ok (.putfield 60, 3) := by decide +kernel
theorem dX0_clear_23 : decode cX0_clear 23 = .ok (.aload_n 0, 1) := by decide +kernel
theorem dX0_clear_24 : decode cX0_clear 24 = .ok (.iconst 0, 1) := by decide +kernel
theorem dX0_clear_25 : decode cX0_clear 25 = .ok (.putfield 63, 3) := by decide +kernel
theorem dX0_clear_28 : decode cX0_clear 28 = .ok (.aload_n 0, 1) := by decide +kernel
theorem dX0_clear_29 : decode cX0_clear 29 = .ok (.iconst (-1), 1) := by decide +kernel
theorem dX0_clear_30 : decode cX0_clear 30 = .ok (.putfield 66, 3) := by decide +kernel
theorem dX0_clear_33 : decode cX0_clear 33 = .ok (.aload_n 0, 1) := by decide +kernel
theorem dX0_clear_34 : decode cX0_clear 34 = .ok (.getfield 33, 3) := by decide +kernel
theorem dX0_clear_37 : decode cX0_clear 37 = .ok (.iconst 0, 1) := by decide +kernel
theorem dX0_clear_38 : decode cX0_clear 38 = .ok (.putfield 69, 3) := by decide +kernel
theorem dX0_clear_41 : decode cX0_clear 41 = .ok (.aload_n 0, 1) := by decide +kernel
theorem dX0_clear_42 : decode cX0_clear 42 = .ok (.getfield 37, 3) := by decide +kernel
theorem dX0_clear_45 : decode cX0_clear 45 = .ok (.iconst 0, 1) := by decide +kernel
theorem dX0_clear_46 : decode cX0_clear 46 = .ok (.putfield 69, 3) := by decide +kernel
theorem dX0_clear_49 : decode cX0_clear 49 = .ok (.aload_n 0, 1) := by decide +kernel
theorem dX0_clear_50 : decode cX0_clear 50 = .ok (.getfield 43, 3) := by decide +kernel
theorem dX0_clear_53 : decode cX0_clear 53 = .ok (.invokevirtual 72, 3) := by decide +kernel
theorem dX0_clear_56 : decode cX0_clear 56 = .ok (.return_, 1) := by decide +kernel
theorem dX0_take_0 : decode cX0_take 0 = .ok (.aload_n 0, 1) := by decide +kernel
theorem dX0_take_1 : decode cX0_take 1 = .ok (.aload_n 1, 1) := by decide +kernel
theorem dX0_take_2 : decode cX0_take 2 = .ok (.getfield 50, 3) := by decide +kernel
theorem dX0_take_5 : decode cX0_take 5 = .ok (.putfield 50, 3) := by decide +kernel
theorem dX0_take_8 : decode cX0_take 8 = .ok (.aload_n 0, 1) := by decide +kernel
theorem dX0_take_9 : decode cX0_take 9 = .ok (.aload_n 1, 1) := by decide +kernel
theorem dX0_take_10 : decode cX0_take 10 = .ok (.getfield 54, 3) := by decide +kernel
theorem dX0_take_13 : decode cX0_take 13 = .ok (.putfield 54, 3) := by decide +kernel
theorem dX0_take_16 : decode cX0_take 16 = .ok (.aload_n 0, 1) := by decide +kernel
theorem dX0_take_17 : decode cX0_take 17 = .ok (.aload_n 1, 1) := by decide +kernel
theorem dX0_take_18 : decode cX0_take 18 = .ok (.getfield 57, 3) := by decide +kernel
theorem dX0_take_21 : decode cX0_take 21 = .ok (.putfield 57, 3) := by decide +kernel
theorem dX0_take_24 : decode cX0_take 24 = .ok (.aload_n 0, 1) := by decide +kernel
theorem dX0_take_25 : decode cX0_take 25 = .ok (.aload_n 1, 1) := by decide +kernel
theorem dX0_take_26 : decode cX0_take 26 = .ok (.getfield 60, 3) := by decide +kernel
theorem dX0_take_29 : decode cX0_take 29 = .ok (.putfield 60, 3) := by decide +kernel
theorem dX0_take_32 : decode cX0_take 32 = .ok (.aload_n 0, 1) := by decide +kernel
theorem dX0_take_33 : decode cX0_take 33 = .ok (.aload_n 1, 1) := by decide +kernel
theorem dX0_take_34 : decode cX0_take 34 = .ok (.getfield 63, 3) := by decide +kernel
theorem dX0_take_37 : decode cX0_take 37 = .ok (.putfield 63, 3) := by decide +kernel
theorem dX0_take_40 : decode cX0_take 40 = .ok (.aload_n 0, 1) := by decide +kernel
theorem dX0_take_41 : decode cX0_take 41 = .ok (.aload_n 1, 1) := by decide +kernel
theorem dX0_take_42 : decode cX0_take 42 = .ok (.getfield 66, 3) := by decide +kernel
theorem dX0_take_45 : decode cX0_take 45 = .ok (.putfield 66, 3) := by decide +kernel
theorem dX0_take_48 : decode cX0_take 48 = .ok (.aload_n 1, 1) := by decide +kernel
theorem dX0_take_49 : decode cX0_take 49 = .ok (.getfield 9, 3) := by decide +kernel
theorem dX0_take_52 : decode cX0_take 52 = .ok (.iconst 0, 1) := by decide +kernel
theorem dX0_take_53 : decode cX0_take 53 = .ok (.aload_n 0, 1) := by decide +kernel
theorem dX0_take_54 : decode cX0_take 54 = .ok (.getfield 9, 3) := by decide +kernel
theorem dX0_take_57 : decode cX0_take 57 = .ok (.iconst 0, 1) := by decide +kernel
theorem dX0_take_58 : decode cX0_take 58 = .ok (.bipush 8, 2) := by decide +kernel
theorem dX0_take_60 : decode cX0_take 60 = .ok (.invokestatic 73, 3) := by decide +kernel
theorem dX0_take_63 : decode cX0_take 63 = .ok (.aload_n 1, 1) := by decide +kernel
theorem dX0_take_64 : decode cX0_take 64 = .ok (.getfield 15, 3) := by decide +kernel
theorem dX0_take_67 : decode cX0_take 67 = .ok (.iconst 0, 1) := by decide +kernel
theorem dX0_take_68 : decode cX0_take 68 = .ok (.aload_n 0, 1) := by decide +kernel
theorem dX0_take_69 : decode cX0_take 69 = .ok (.getfield 15, 3) := by decide +kernel
theorem dX0_take_72 : decode cX0_take 72 = .ok (.iconst 0, 1) := by decide +kernel
theorem dX0_take_73 : decode cX0_take 73 = .ok (.bipush 8, 2) := by decide +kernel
theorem dX0_take_75 : decode cX0_take 75 = .ok (.invokestatic 73, 3) := by decide +kernel
theorem dX0_take_78 : decode cX0_take 78 = .ok (.aload_n 1, 1) := by decide +kernel
theorem dX0_take_79 : decode cX0_take 79 = .ok (.getfield 18, 3) := by decide +kernel
theorem dX0_take_82 : decode cX0_take 82 = .ok (.iconst 0, 1) := by decide +kernel
theorem dX0_take_83 : decode cX0_take 83 = .ok (.aload_n 0, 1) := by decide +kernel
theorem dX0_take_84 : decode cX0_take 84 = .ok (.getfield 18, 3) := by decide +kernel
theorem dX0_take_87 : decode cX0_take 87 = .ok (.iconst 0, 1) := by decide +kernel
theorem dX0_take_88 : decode cX0_take 88 = .ok (.bipush 8, 2) := by decide +kernel
theorem dX0_take_90 : decode cX0_take 90 = .ok (.invokestatic 73, 3) := by decide +kernel
theorem dX0_take_93 : decode cX0_take 93 = .ok (.aload_n 1, 1) := by decide +kernel
theorem dX0_take_94 : decode cX0_take 94 = .ok (.getfield 21, 3) := by decide +kernel
theorem dX0_take_97 : decode cX0_take 97 = .ok (.iconst 0, 1) := by decide +kernel
theorem dX0_take_98 : decode cX0_take 98 = .ok (.aload_n 0, 1) := by decide +kernel
theorem dX0_take_99 : decode cX0_take 99 = .ok (.getfield 21, 3) := by decide +kernel
theorem dX0_take_102 : decode cX0_take 102 = .ok (.iconst 0, 1) := by decide +kernel
theorem dX0_take_103 : decode cX0_take 103 = .ok (.bipush 8, 2) := by decide +kernel
theorem dX0_take_105 : decode cX0_take 105 = .ok (.invokestatic 73, 3) := by decide +kernel
theorem dX0_take_108 : decode cX0_take 108 = .ok (.aload_n 1, 1) := by decide +kernel
theorem dX0_take_109 : decode cX0_take 109 = .ok (.getfield 24, 3) := by decide +kernel
theorem dX0_take_112 : decode cX0_take 112 = .ok (.iconst 0, 1) := by decide +kernel
theorem dX0_take_113 : decode cX0_take 113 = .ok (.aload_n 0, 1) := by decide +kernel
theorem dX0_take_114 : decode cX0_take 114 = .ok (.getfield 24, 3) := by decide +kernel
theorem dX0_take_117 : decode cX0_take 117 = .ok (.iconst 0, 1) := by decide +kernel
theorem dX0_take_118 : decode cX0_take 118 = .ok (.bipush 8, 2) := by decide +kernel
theorem dX0_take_120 : decode cX0_take 120 = .ok (.invokestatic 73, 3) := by decide +kernel
theorem dX0_take_123 : decode cX0_take 123 = .ok (.aload_n 1, 1) := by decide +kernel
theorem dX0_take_124 : decode cX0_take 124 = .ok (.getfield 27, 3) := by decide +kernel
theorem dX0_take_127 : decode cX0_take 127 = .ok (.iconst 0, 1) := by decide +kernel
theorem dX0_take_128 : decode cX0_take 128 = .ok (.aload_n 0, 1) := by decide +kernel
theorem dX0_take_129 : decode cX0_take 129 = .ok (.getfield 27, 3) := by decide +kernel
theorem dX0_take_132 : decode cX0_take 132 = .ok (.iconst 0, 1) := by decide +kernel
theorem dX0_take_133 : decode cX0_take 133 = .ok (.bipush 8, 2) := by decide +kernel
theorem dX0_take_135 : decode cX0_take 135 = .ok (.invokestatic 73, 3) := by decide +kernel
theorem dX0_take_138 : decode cX0_take 138 = .ok (.aload_n 0, 1) := by decide +kernel
theorem dX0_take_139 : decode cX0_take 139 = .ok (.getfield 33, 3) := by decide +kernel
theorem dX0_take_142 : decode cX0_take 142 = .ok (.aload_n 1, 1) := by decide +kernel
theorem dX0_take_143 : decode cX0_take 143 = .ok (.getfield 33, 3) := by decide +kernel
theorem dX0_take_146 : decode cX0_take 146 = .ok (.invokevirtual 79, 3) := by decide +kernel
theorem dX0_take_149 : decode cX0_take 149 = .ok (.aload_n 0, 1) := by decide +kernel
theorem dX0_take_150 : decode cX0_take 150 = .ok (.getfield 37, 3) := by decide +kernel
theorem dX0_take_153 : decode cX0_take 153 = .ok (.aload_n 1, 1) := by decide +kernel
theorem dX0_take_154 : decode cX0_take 154 = .ok (.getfield 37, 3) := by decide +kernel
theorem dX0_take_157 : decode cX0_take 157 = .ok (.invokevirtual 79, 3) := by decide +kernel
theorem dX0_take_160 : decode cX0_take 160 = .ok (.aload_n 0, 1) := by decide +kernel
theorem dX0_take_161 : decode cX0_take 161 = .ok (.getfield 43, 3) := by decide +kernel
theorem dX0_take_164 : decode cX0_take 164 = .ok (.aload_n 1, 1) := by decide +kernel
theorem dX0_take_165 : decode cX0_take 165 = .ok (.getfield 43, 3) := by decide +kernel
theorem dX0_take_168 : decode cX0_take 168 = .ok (.invokevirtual 83, 3) := by decide +kernel
theorem dX0_take_171 : decode cX0_take 171 = .ok (.return_, 1) := by decide +kernel
theorem dX0_tellThing_0 : decode cX0_tellThing 0 = .ok (.iload_n 1, 1) := by decide +kernel
theorem dX0_tellThing_1 : decode cX0_tellThing 1 = .ok (.ifCond .lt 51, 3) := by decide +kernel
theorem dX0_tellThing_4 : decode cX0_tellThing 4 = .ok (.iload_n 1, 1) := by decide +kernel
theorem dX0_tellThing_5 : decode cX0_tellThing 5 = .ok (.bipush 8, 2) := by decide +kernel
theorem dX0_tellThing_7 : decode cX0_tellThing 7 = .ok (.if_icmp .ge 45, 3) := by decide +kernel
theorem dX0_tellThing_10 : decode cX0_tellThing 10 = .ok (.aload_n 0, 1) := by decide +kernel
theorem dX0_tellThing_11 : decode cX0_tellThing 11 = .ok (.getfield 9, 3) := by decide +kernel
theorem dX0_tellThing_14 : decode cX0_tellThing 14 = .ok (.iload_n 1, 1) := by decide +kernel
theorem dX0_tellThing_15 : decode cX0_tellThing 15 = .ok (.iload_n 2, 1) := by decide +kernel
theorem dX0_tellThing_16 : decode cX0_tellThing 16 = .ok (.iastore, 1) := by decide +kernel
theorem dX0_tellThing_17 : decode cX0_tellThing 17 = .ok (.aload_n 0, 1) := by decide +kernel
theorem dX0_tellThing_18 : decode cX0_tellThing 18 = .ok (.getfield 15, 3) := by decide +kernel
theorem dX0_tellThing_21 : decode cX0_tellThing 21 = .ok (.iload_n 1, 1) := by decide +kernel
theorem dX0_tellThing_22 : decode cX0_tellThing 22 = .ok (.iload_n 3, 1) := by decide +kernel
theorem dX0_tellThing_23 : decode cX0_tellThing 23 = .ok (.iastore, 1) := by decide +kernel
theorem dX0_tellThing_24 : decode cX0_tellThing 24 = .ok (.aload_n 0, 1) := by decide +kernel
theorem dX0_tellThing_25 : decode cX0_tellThing 25 = .ok (.getfield 18, 3) := by decide +kernel
theorem dX0_tellThing_28 : decode cX0_tellThing 28 = .ok (.iload_n 1, 1) := by decide +kernel
theorem dX0_tellThing_29 : decode cX0_tellThing 29 = .ok (.iconst (-1), 1) := by decide +kernel
theorem dX0_tellThing_30 : decode cX0_tellThing 30 = .ok (.iastore, 1) := by decide +kernel
theorem dX0_tellThing_31 : decode cX0_tellThing 31 = .ok (.aload_n 0, 1) := by decide +kernel
theorem dX0_tellThing_32 : decode cX0_tellThing 32 = .ok (.getfield 21, 3) := by decide +kernel
theorem dX0_tellThing_35 : decode cX0_tellThing 35 = .ok (.iload_n 1, 1) := by decide +kernel
theorem dX0_tellThing_36 : decode cX0_tellThing 36 = .ok (.iconst 0, 1) := by decide +kernel
theorem dX0_tellThing_37 : decode cX0_tellThing 37 = .ok (.iastore, 1) := by decide +kernel
theorem dX0_tellThing_38 : decode cX0_tellThing 38 = .ok (.aload_n 0, 1) := by decide +kernel
theorem dX0_tellThing_39 : decode cX0_tellThing 39 = .ok (.getfield 24, 3) := by decide +kernel
theorem dX0_tellThing_42 : decode cX0_tellThing 42 = .ok (.iload_n 1, 1) := by decide +kernel
theorem dX0_tellThing_43 : decode cX0_tellThing 43 = .ok (.iconst 0, 1) := by decide +kernel
theorem dX0_tellThing_44 : decode cX0_tellThing 44 = .ok (.iastore, 1) := by decide +kernel
theorem dX0_tellThing_45 : decode cX0_tellThing 45 = .ok (.aload_n 0, 1) := by decide +kernel
theorem dX0_tellThing_46 : decode cX0_tellThing 46 = .ok (.getfield 27, 3) := by decide +kernel
theorem dX0_tellThing_49 : decode cX0_tellThing 49 = .ok (.iload_n 1, 1) := by decide +kernel
theorem dX0_tellThing_50 : decode cX0_tellThing 50 = .ok (.iconst 0, 1) := by decide +kernel
theorem dX0_tellThing_51 : decode cX0_tellThing 51 = .ok (.iastore, 1) := by decide +kernel
theorem dX0_tellThing_52 : decode cX0_tellThing 52 = .ok (.return_, 1) := by decide +kernel
theorem dX0_has_0 : decode cX0_has 0 = .ok (.iload_n 1, 1) := by decide +kernel
theorem dX0_has_1 : decode cX0_has 1 = .ok (.ifCond .lt 24, 3) := by decide +kernel
theorem dX0_has_4 : decode cX0_has 4 = .ok (.iload_n 1, 1) := by decide +kernel
theorem dX0_has_5 : decode cX0_has 5 = .ok (.bipush 8, 2) := by decide +kernel
theorem dX0_has_7 : decode cX0_has 7 = .ok (.if_icmp .ge 18, 3) := by decide +kernel
theorem dX0_has_10 : decode cX0_has 10 = .ok (.aload_n 0, 1) := by decide +kernel
theorem dX0_has_11 : decode cX0_has 11 = .ok (.getfield 50, 3) := by decide +kernel
theorem dX0_has_14 : decode cX0_has 14 = .ok (.iload_n 1, 1) := by decide +kernel
theorem dX0_has_15 : decode cX0_has 15 = .ok (.ishr, 1) := by decide +kernel
theorem dX0_has_16 : decode cX0_has 16 = .ok (.iconst 1, 1) := by decide +kernel
theorem dX0_has_17 : decode cX0_has 17 = .ok (.iand, 1) := by decide +kernel
theorem dX0_has_18 : decode cX0_has 18 = .ok (.ifCond .eq 7, 3) := by decide +kernel
theorem dX0_has_21 : decode cX0_has 21 = .ok (.iconst 1, 1) := by decide +kernel
theorem dX0_has_22 : decode cX0_has 22 = .ok (.goto 4, 3) := by decide +kernel
theorem dX0_has_25 : decode cX0_has 25 = .ok (.iconst 0, 1) := by decide +kernel
theorem dX0_has_26 : decode cX0_has 26 = .ok (.ireturn, 1) := by decide +kernel
theorem dX0_hasAll_0 : decode cX0_hasAll 0 = .ok (.iload_n 1, 1) := by decide +kernel
theorem dX0_hasAll_1 : decode cX0_hasAll 1 = .ok (.aload_n 0, 1) := by decide +kernel
theorem dX0_hasAll_2 : decode cX0_hasAll 2 = .ok (.getfield 50, 3) := by decide +kernel
theorem dX0_hasAll_5 : decode cX0_hasAll 5 = .ok (.iconst (-1), 1) := by decide +kernel
theorem dX0_hasAll_6 : decode cX0_hasAll 6 = .ok (.ixor, 1) := by decide +kernel
theorem dX0_hasAll_7 : decode cX0_hasAll 7 = .ok (.iand, 1) := by decide +kernel
theorem dX0_hasAll_8 : decode cX0_hasAll 8 = .ok (.ifCond .ne 7, 3) := by decide +kernel
theorem dX0_hasAll_11 : decode cX0_hasAll 11 = .ok (.iconst 1, 1) := by decide +kernel
theorem dX0_hasAll_12 : decode cX0_hasAll 12 = .ok (.goto 4, 3) := by decide +kernel
theorem dX0_hasAll_15 : decode cX0_hasAll 15 = .ok (.iconst 0, 1) := by decide +kernel
theorem dX0_hasAll_16 : decode cX0_hasAll 16 = .ok (.ireturn, 1) := by decide +kernel
theorem dX0_firstOwed_0 : decode cX0_firstOwed 0 = .ok (.aload_n 0, 1) := by decide +kernel
theorem dX0_firstOwed_1 : decode cX0_firstOwed 1 = .ok (.getfield 9, 3) := by decide +kernel
theorem dX0_firstOwed_4 : decode cX0_firstOwed 4 = .ok (.iload_n 1, 1) := by decide +kernel
theorem dX0_firstOwed_5 : decode cX0_firstOwed 5 = .ok (.iaload, 1) := by decide +kernel
theorem dX0_firstOwed_6 : decode cX0_firstOwed 6 = .ok (.aload_n 0, 1) := by decide +kernel
theorem dX0_firstOwed_7 : decode cX0_firstOwed 7 = .ok (.getfield 15, 3) := by decide +kernel
theorem dX0_firstOwed_10 : decode cX0_firstOwed 10 = .ok (.iload_n 1, 1) := by decide +kernel
theorem dX0_firstOwed_11 : decode cX0_firstOwed 11 = .ok (.iaload, 1) := by decide +kernel
theorem dX0_firstOwed_12 : decode cX0_firstOwed 12 = .ok (.iload_n 2, 1) := by decide +kernel
theorem dX0_firstOwed_13 : decode cX0_firstOwed 13 = .ok (.imul, 1) := by decide +kernel
theorem dX0_firstOwed_14 : decode cX0_firstOwed 14 = .ok (.iadd, 1) := by decide +kernel
theorem dX0_firstOwed_15 : decode cX0_firstOwed 15 = .ok (.ireturn, 1) := by decide +kernel
theorem dX0_isLost_0 : decode cX0_isLost 0 = .ok (.aload_n 0, 1) := by decide +kernel
theorem dX0_isLost_1 : decode cX0_isLost 1 = .ok (.getfield 18, 3) := by decide +kernel
theorem dX0_isLost_4 : decode cX0_isLost 4 = .ok (.iload_n 1, 1) := by decide +kernel
theorem dX0_isLost_5 : decode cX0_isLost 5 = .ok (.iaload, 1) := by decide +kernel
theorem dX0_isLost_6 : decode cX0_isLost 6 = .ok (.iconst (-1), 1) := by decide +kernel
theorem dX0_isLost_7 : decode cX0_isLost 7 = .ok (.if_icmp .eq 17, 3) := by decide +kernel
theorem dX0_isLost_10 : decode cX0_isLost 10 = .ok (.aload_n 0, 1) := by decide +kernel
theorem dX0_isLost_11 : decode cX0_isLost 11 = .ok (.getfield 18, 3) := by decide +kernel
theorem dX0_isLost_14 : decode cX0_isLost 14 = .ok (.iload_n 1, 1) := by decide +kernel
theorem dX0_isLost_15 : decode cX0_isLost 15 = .ok (.iaload, 1) := by decide +kernel
theorem dX0_isLost_16 : decode cX0_isLost 16 = .ok (.iload_n 2, 1) := by decide +kernel
theorem dX0_isLost_17 : decode cX0_isLost 17 = .ok (.if_icmp .gt 7, 3) := by decide +kernel
theorem dX0_isLost_20 : decode cX0_isLost 20 = .ok (.iconst 1, 1) := by decide +kernel
theorem dX0_isLost_21 : decode cX0_isLost 21 = .ok (.goto 4, 3) := by decide +kernel
theorem dX0_isLost_24 : decode cX0_isLost 24 = .ok (.iconst 0, 1) := by decide +kernel
theorem dX0_isLost_25 : decode cX0_isLost 25 = .ok (.ireturn, 1) := by decide +kernel
theorem dX0_lostBy_0 : decode cX0_lostBy 0 = .ok (.iconst 0, 1) := by decide +kernel
theorem dX0_lostBy_1 : decode cX0_lostBy 1 = .ok (.istore_n 2, 1) := by decide +kernel
theorem dX0_lostBy_2 : decode cX0_lostBy 2 = .ok (.iconst 0, 1) := by decide +kernel
theorem dX0_lostBy_3 : decode cX0_lostBy 3 = .ok (.istore_n 3, 1) := by decide +kernel
theorem dX0_lostBy_4 : decode cX0_lostBy 4 = .ok (.iload_n 3, 1) := by decide +kernel
theorem dX0_lostBy_5 : decode cX0_lostBy 5 = .ok (.bipush 8, 2) := by decide +kernel
theorem dX0_lostBy_7 : decode cX0_lostBy 7 = .ok (.if_icmp .ge 35, 3) := by decide +kernel
theorem dX0_lostBy_10 : decode cX0_lostBy 10 = .ok (.aload_n 0, 1) := by decide +kernel
theorem dX0_lostBy_11 : decode cX0_lostBy 11 = .ok (.getfield 50, 3) := by decide +kernel
theorem dX0_lostBy_14 : decode cX0_lostBy 14 = .ok (.iload_n 3, 1) := by decide +kernel
theorem dX0_lostBy_15 : decode cX0_lostBy 15 = .ok (.ishr, 1) := by decide +kernel
theorem dX0_lostBy_16 : decode cX0_lostBy 16 = .ok (.iconst 1, 1) := by decide +kernel
theorem dX0_lostBy_17 : decode cX0_lostBy 17 = .ok (.iand, 1) := by decide +kernel
theorem dX0_lostBy_18 : decode cX0_lostBy 18 = .ok (.ifCond .eq 18, 3) := by decide +kernel
theorem dX0_lostBy_21 : decode cX0_lostBy 21 = .ok (.aload_n 0, 1) := by decide +kernel
theorem dX0_lostBy_22 : decode cX0_lostBy 22 = .ok (.iload_n 3, 1) := by decide +kernel
theorem dX0_lostBy_23 : decode cX0_lostBy 23 = .ok (.iload_n 1, 1) := by decide +kernel
theorem dX0_lostBy_24 : decode cX0_lostBy 24 = .ok (.invokevirtual 86, 3) := by decide +kernel
theorem dX0_lostBy_27 : decode cX0_lostBy 27 = .ok (.ifCond .eq 9, 3) := by decide +kernel
theorem dX0_lostBy_30 : decode cX0_lostBy 30 = .ok (.iload_n 2, 1) := by decide +kernel
theorem dX0_lostBy_31 : decode cX0_lostBy 31 = .ok (.iconst 1, 1) := by decide +kernel
theorem dX0_lostBy_32 : decode cX0_lostBy 32 = .ok (.iload_n 3, 1) := by decide +kernel
theorem dX0_lostBy_33 : decode cX0_lostBy 33 = .ok (.ishl, 1) := by decide +kernel
theorem dX0_lostBy_34 : decode cX0_lostBy 34 = .ok (.ior, 1) := by decide +kernel
theorem dX0_lostBy_35 : decode cX0_lostBy 35 = .ok (.istore_n 2, 1) := by decide +kernel
theorem dX0_lostBy_36 : decode cX0_lostBy 36 = .ok (.iinc 3 1, 3) := by decide +kernel
theorem dX0_lostBy_39 : decode cX0_lostBy 39 = .ok (.goto (-35), 3) := by decide +kernel
theorem dX0_lostBy_42 : decode cX0_lostBy 42 = .ok (.iload_n 2, 1) := by decide +kernel
theorem dX0_lostBy_43 : decode cX0_lostBy 43 = .ok (.ireturn, 1) := by decide +kernel
theorem dX0_earnings_0 : decode cX0_earnings 0 = .ok (.aload_n 1, 1) := by decide +kernel
theorem dX0_earnings_1 : decode cX0_earnings 1 = .ok (.iload_n 2, 1) := by decide +kernel
theorem dX0_earnings_2 : decode cX0_earnings 2 = .ok (.iload_n 3, 1) := by decide +kernel
theorem dX0_earnings_3 : decode cX0_earnings 3 = .ok (.iload 4, 2) := by decide +kernel
theorem dX0_earnings_5 : decode cX0_earnings 5 = .ok (.invokevirtual 90, 3) := by decide +kernel
theorem dX0_earnings_8 : decode cX0_earnings 8 = .ok (.aload_n 0, 1) := by decide +kernel
theorem dX0_earnings_9 : decode cX0_earnings 9 = .ok (.getfield 33, 3) := by decide +kernel
theorem dX0_earnings_12 : decode cX0_earnings 12 = .ok (.aload_n 0, 1) := by decide +kernel
theorem dX0_earnings_13 : decode cX0_earnings 13 = .ok (.getfield 33, 3) := by decide +kernel
theorem dX0_earnings_16 : decode cX0_earnings 16 = .ok (.aload_n 0, 1) := by decide +kernel
theorem dX0_earnings_17 : decode cX0_earnings 17 = .ok (.getfield 43, 3) := by decide +kernel
theorem dX0_earnings_20 : decode cX0_earnings 20 = .ok (.aload_n 1, 1) := by decide +kernel
theorem dX0_earnings_21 : decode cX0_earnings 21 = .ok (.invokevirtual 96, 3) := by decide +kernel
theorem dX0_earnings_24 : decode cX0_earnings 24 = .ok (.iload_n 3, 1) := by decide +kernel
theorem dX0_earnings_25 : decode cX0_earnings 25 = .ok (.invokevirtual 100, 3) := by decide +kernel
theorem dX0_earnings_28 : decode cX0_earnings 28 = .ok (.ireturn, 1) := by decide +kernel
theorem dX0_needing_0 : decode cX0_needing 0 = .ok (.aload_n 1, 1) := by decide +kernel
theorem dX0_needing_1 : decode cX0_needing 1 = .ok (.iload_n 2, 1) := by decide +kernel
theorem dX0_needing_2 : decode cX0_needing 2 = .ok (.iload_n 3, 1) := by decide +kernel
theorem dX0_needing_3 : decode cX0_needing 3 = .ok (.iload 4, 2) := by decide +kernel
theorem dX0_needing_5 : decode cX0_needing 5 = .ok (.invokevirtual 90, 3) := by decide +kernel
theorem dX0_needing_8 : decode cX0_needing 8 = .ok (.aload_n 0, 1) := by decide +kernel
theorem dX0_needing_9 : decode cX0_needing 9 = .ok (.getfield 37, 3) := by decide +kernel
theorem dX0_needing_12 : decode cX0_needing 12 = .ok (.aload_n 0, 1) := by decide +kernel
theorem dX0_needing_13 : decode cX0_needing 13 = .ok (.getfield 37, 3) := by decide +kernel
theorem dX0_needing_16 : decode cX0_needing 16 = .ok (.aload_n 0, 1) := by decide +kernel
theorem dX0_needing_17 : decode cX0_needing 17 = .ok (.getfield 43, 3) := by decide +kernel
theorem dX0_needing_20 : decode cX0_needing 20 = .ok (.aload_n 1, 1) := by decide +kernel
theorem dX0_needing_21 : decode cX0_needing 21 = .ok (.invokevirtual 96, 3) := by decide +kernel
theorem dX0_needing_24 : decode cX0_needing 24 = .ok (.iload_n 3, 1) := by decide +kernel
theorem dX0_needing_25 : decode cX0_needing 25 = .ok (.invokevirtual 100, 3) := by decide +kernel
theorem dX0_needing_28 : decode cX0_needing 28 = .ok (.ireturn, 1) := by decide +kernel
theorem dX0_cousinLendsIn_0 : decode cX0_cousinLendsIn 0 = .ok (.aload_n 0, 1) := by decide +kernel
theorem dX0_cousinLendsIn_1 : decode cX0_cousinLendsIn 1 = .ok (.getfield 66, 3) := by decide +kernel
theorem dX0_cousinLendsIn_4 : decode cX0_cousinLendsIn 4 = .ok (.iconst (-1), 1) := by decide +kernel
theorem dX0_cousinLendsIn_5 : decode cX0_cousinLendsIn 5 = .ok (.if_icmp .eq 26, 3) := by decide +kernel
theorem dX0_cousinLendsIn_8 : decode cX0_cousinLendsIn 8 = .ok (.aload_n 0, 1) := by decide +kernel
theorem dX0_cousinLendsIn_9 : decode cX0_cousinLendsIn 9 = .ok (.getfield 66, 3) := by decide +kernel
theorem dX0_cousinLendsIn_12 : decode cX0_cousinLendsIn 12 = .ok (.aload_n 0, 1) := by decide +kernel
theorem dX0_cousinLendsIn_13 : decode cX0_cousinLendsIn 13 = .ok (.getfield 54, 3) := by decide +kernel
theorem dX0_cousinLendsIn_16 : decode cX0_cousinLendsIn 16 = .ok (.if_icmp .ge 15, 3) := by decide +kernel
theorem dX0_cousinLendsIn_19 : decode cX0_cousinLendsIn 19 = .ok (.iload_n 1, 1) := by decide +kernel
theorem dX0_cousinLendsIn_20 : decode cX0_cousinLendsIn 20 = .ok (.aload_n 0, 1) := by decide +kernel
theorem dX0_cousinLendsIn_21 : decode cX0_cousinLendsIn 21 = .ok (.getfield 66, 3) := by decide +kernel
theorem dX0_cousinLendsIn_24 : decode cX0_cousinLendsIn 24 = .ok (.if_icmp .ge 7, 3) := by decide +kernel
theorem dX0_cousinLendsIn_27 : decode cX0_cousinLendsIn 27 = .ok (.iconst 1, 1) := by decide +kernel
theorem dX0_cousinLendsIn_28 : decode cX0_cousinLendsIn 28 = .ok (.goto 4, 3) := by decide +kernel
theorem dX0_cousinLendsIn_31 : decode cX0_cousinLendsIn 31 = .ok (.iconst 0, 1) := by decide +kernel
theorem dX0_cousinLendsIn_32 : decode cX0_cousinLendsIn 32 = .ok (.ireturn, 1) := by decide +kernel
theorem dX1_init_0 : decode cX1_init 0 = .ok (.aload_n 0, 1) := by decide +kernel
theorem dX1_init_1 : decode cX1_init 1 = .ok (.invokespecial 3, 3) := by decide +kernel
theorem dX1_init_4 : decode cX1_init 4 = .ok (.aload_n 0, 1) := by decide +kernel
theorem dX1_init_5 : decode cX1_init 5 = .ok (.bipush 24, 2) := by decide +kernel
theorem dX1_init_7 : decode cX1_init 7 = .ok (.newarray .int, 2) := by decide +kernel
theorem dX1_init_9 : decode cX1_init 9 = .ok (.putfield 9, 3) := by decide +kernel
theorem dX1_init_12 : decode cX1_init 12 = .ok (.aload_n 0, 1) := by decide +kernel
theorem dX1_init_13 : decode cX1_init 13 = .ok (.bipush 24, 2) := by decide +kernel
theorem dX1_init_15 : decode cX1_init 15 = .ok (.newarray .int, 2) := by decide +kernel
theorem dX1_init_17 : decode cX1_init 17 = .ok (.putfield 15, 3) := by decide +kernel
theorem dX1_init_20 : decode cX1_init 20 = .ok (.aload_n 0, 1) := by decide +kernel
theorem dX1_init_21 : decode cX1_init 21 = .ok (.bipush 24, 2) := by decide +kernel
theorem dX1_init_23 : decode cX1_init 23 = .ok (.newarray .int, 2) := by decide +kernel
theorem dX1_init_25 : decode cX1_init 25 = .ok (.putfield 18, 3) := by decide +kernel
theorem dX1_init_28 : decode cX1_init 28 = .ok (.return_, 1) := by decide +kernel
theorem dX1_take_0 : decode cX1_take 0 = .ok (.aload_n 1, 1) := by decide +kernel
theorem dX1_take_1 : decode cX1_take 1 = .ok (.getfield 9, 3) := by decide +kernel
theorem dX1_take_4 : decode cX1_take 4 = .ok (.iconst 0, 1) := by decide +kernel
theorem dX1_take_5 : decode cX1_take 5 = .ok (.aload_n 0, 1) := by decide +kernel
theorem dX1_take_6 : decode cX1_take 6 = .ok (.getfield 9, 3) := by decide +kernel
theorem dX1_take_9 : decode cX1_take 9 = .ok (.iconst 0, 1) := by decide +kernel
theorem dX1_take_10 : decode cX1_take 10 = .ok (.bipush 24, 2) := by decide +kernel
theorem dX1_take_12 : decode cX1_take 12 = .ok (.invokestatic 21, 3) := by decide +kernel
theorem dX1_take_15 : decode cX1_take 15 = .ok (.aload_n 1, 1) := by decide +kernel
theorem dX1_take_16 : decode cX1_take 16 = .ok (.getfield 15, 3) := by decide +kernel
theorem dX1_take_19 : decode cX1_take 19 = .ok (.iconst 0, 1) := by decide +kernel
theorem dX1_take_20 : decode cX1_take 20 = .ok (.aload_n 0, 1) := by decide +kernel
theorem dX1_take_21 : decode cX1_take 21 = .ok (.getfield 15, 3) := by decide +kernel
theorem dX1_take_24 : decode cX1_take 24 = .ok (.iconst 0, 1) := by decide +kernel
theorem dX1_take_25 : decode cX1_take 25 = .ok (.bipush 24, 2) := by decide +kernel
theorem dX1_take_27 : decode cX1_take 27 = .ok (.invokestatic 21, 3) := by decide +kernel
theorem dX1_take_30 : decode cX1_take 30 = .ok (.aload_n 1, 1) := by decide +kernel
theorem dX1_take_31 : decode cX1_take 31 = .ok (.getfield 18, 3) := by decide +kernel
theorem dX1_take_34 : decode cX1_take 34 = .ok (.iconst 0, 1) := by decide +kernel
theorem dX1_take_35 : decode cX1_take 35 = .ok (.aload_n 0, 1) := by decide +kernel
theorem dX1_take_36 : decode cX1_take 36 = .ok (.getfield 18, 3) := by decide +kernel
theorem dX1_take_39 : decode cX1_take 39 = .ok (.iconst 0, 1) := by decide +kernel
theorem dX1_take_40 : decode cX1_take 40 = .ok (.bipush 24, 2) := by decide +kernel
theorem dX1_take_42 : decode cX1_take 42 = .ok (.invokestatic 21, 3) := by decide +kernel
theorem dX1_take_45 : decode cX1_take 45 = .ok (.aload_n 0, 1) := by decide +kernel
theorem dX1_take_46 : decode cX1_take 46 = .ok (.aload_n 1, 1) := by decide +kernel
theorem dX1_take_47 : decode cX1_take 47 = .ok (.getfield 27, 3) := by decide +kernel
theorem dX1_take_50 : decode cX1_take 50 = .ok (.putfield 27, 3) := by decide +kernel
theorem dX1_take_53 : decode cX1_take 53 = .ok (.return_, 1) := by decide +kernel
theorem dX1_add_0 : decode cX1_add 0 = .ok (.aload_n 0, 1) := by decide +kernel
theorem dX1_add_1 : decode cX1_add 1 = .ok (.getfield 27, 3) := by decide +kernel
theorem dX1_add_4 : decode cX1_add 4 = .ok (.bipush 24, 2) := by decide +kernel
theorem dX1_add_6 : decode cX1_add 6 = .ok (.if_icmp .ge 43, 3) := by decide +kernel
theorem dX1_add_9 : decode cX1_add 9 = .ok (.aload_n 0, 1) := by decide +kernel
theorem dX1_add_10 : decode cX1_add 10 = .ok (.getfield 9, 3) := by decide +kernel
theorem dX1_add_13 : decode cX1_add 13 = .ok (.aload_n 0, 1) := by decide +kernel
theorem dX1_add_14 : decode cX1_add 14 = .ok (.getfield 27, 3) := by decide +kernel
theorem dX1_add_17 : decode cX1_add 17 = .ok (.iload_n 1, 1) := by decide +kernel
theorem dX1_add_18 : decode cX1_add 18 = .ok (.iastore, 1) := by decide +kernel
theorem dX1_add_19 : decode cX1_add 19 = .ok (.aload_n 0, 1) := by decide +kernel
theorem dX1_add_20 : decode cX1_add 20 = .ok (.getfield 15, 3) := by decide +kernel
theorem dX1_add_23 : decode cX1_add 23 = .ok (.aload_n 0, 1) := by decide +kernel
theorem dX1_add_24 : decode cX1_add 24 = .ok (.getfield 27, 3) := by decide +kernel
theorem dX1_add_27 : decode cX1_add 27 = .ok (.iload_n 2, 1) := by decide +kernel
theorem dX1_add_28 : decode cX1_add 28 = .ok (.iastore, 1) := by decide +kernel
theorem dX1_add_29 : decode cX1_add 29 = .ok (.aload_n 0, 1) := by decide +kernel
theorem dX1_add_30 : decode cX1_add 30 = .ok (.getfield 18, 3) := by decide +kernel
theorem dX1_add_33 : decode cX1_add 33 = .ok (.aload_n 0, 1) := by decide +kernel
theorem dX1_add_34 : decode cX1_add 34 = .ok (.getfield 27, 3) := by decide +kernel
theorem dX1_add_37 : decode cX1_add 37 = .ok (.iload_n 3, 1) := by decide +kernel
theorem dX1_add_38 : decode cX1_add 38 = .ok (.iastore, 1) := by decide +kernel
theorem dX1_add_39 : decode cX1_add 39 = .ok (.aload_n 0, 1) := by decide +kernel
theorem dX1_add_40 : decode cX1_add 40 = .ok (.dup, 1) := by decide +kernel
theorem dX1_add_41 : decode cX1_add 41 = .ok (.getfield 27, 3) := by decide +kernel
theorem dX1_add_44 : decode cX1_add 44 = .ok (.iconst 1, 1) := by decide +kernel
theorem dX1_add_45 : decode cX1_add 45 = .ok (.iadd, 1) := by decide +kernel
theorem dX1_add_46 : decode cX1_add 46 = .ok (.putfield 27, 3) := by decide +kernel
theorem dX1_add_49 : decode cX1_add 49 = .ok (.return_, 1) := by decide +kernel
theorem dX1_holding_0 : decode cX1_holding 0 = .ok (.iconst 0, 1) := by decide +kernel
theorem dX1_holding_1 : decode cX1_holding 1 = .ok (.istore_n 3, 1) := by decide +kernel
theorem dX1_holding_2 : decode cX1_holding 2 = .ok (.iconst 0, 1) := by decide +kernel
theorem dX1_holding_3 : decode cX1_holding 3 = .ok (.istore 4, 2) := by decide +kernel
theorem dX1_holding_5 : decode cX1_holding 5 = .ok (.iload 4, 2) := by decide +kernel
theorem dX1_holding_7 : decode cX1_holding 7 = .ok (.aload_n 0, 1) := by decide +kernel
theorem dX1_holding_8 : decode cX1_holding 8 = .ok (.getfield 27, 3) := by decide +kernel
theorem dX1_holding_11 : decode cX1_holding 11 = .ok (.if_icmp .ge 51, 3) := by decide +kernel
theorem dX1_holding_14 : decode cX1_holding 14 = .ok (.iload 4, 2) := by decide +kernel
theorem dX1_holding_16 : decode cX1_holding 16 = .ok (.bipush 24, 2) := by decide +kernel
theorem dX1_holding_18 : decode cX1_holding 18 = .ok (.if_icmp .ge 44, 3) := by decide +kernel
theorem dX1_holding_21 : decode cX1_holding 21 = .ok (.aload_n 0, 1) := by decide +kernel
theorem dX1_holding_22 : decode cX1_holding 22 = .ok (.getfield 18, 3) := by decide +kernel
theorem dX1_holding_25 : decode cX1_holding 25 = .ok (.iload 4, 2) := by decide +kernel
theorem dX1_holding_27 : decode cX1_holding 27 = .ok (.iaload, 1) := by decide +kernel
theorem dX1_holding_28 : decode cX1_holding 28 = .ok (.iconst (-1), 1) := by decide +kernel
theorem dX1_holding_29 : decode cX1_holding 29 = .ok (.if_icmp .eq 20, 3) := by decide +kernel
theorem dX1_holding_32 : decode cX1_holding 32 = .ok (.aload_n 2, 1) := by decide +kernel
theorem dX1_holding_33 : decode cX1_holding 33 = .ok (.aload_n 1, 1) := by decide +kernel
theorem dX1_holding_34 : decode cX1_holding 34 = .ok (.aload_n 0, 1) := by decide +kernel
theorem dX1_holding_35 : decode cX1_holding 35 = .ok (.getfield 18, 3) := by decide +kernel
theorem dX1_holding_38 : decode cX1_holding 38 = .ok (.iload 4, 2) := by decide +kernel
theorem dX1_holding_40 : decode cX1_holding 40 = .ok (.iaload, 1) := by decide +kernel
theorem dX1_holding_41 : decode cX1_holding 41 = .ok (.invokevirtual 31, 3) := by decide +kernel
theorem dX1_holding_44 : decode cX1_holding 44 = .ok (.lconst 0, 1) := by decide +kernel
theorem dX1_holding_45 : decode cX1_holding 45 = .ok (.lcmp, 1) := by decide +kernel
theorem dX1_holding_46 : decode cX1_holding 46 = .ok (.ifCond .eq 10, 3) := by decide +kernel
theorem dX1_holding_49 : decode cX1_holding 49 = .ok (.iload_n 3, 1) := by decide +kernel
theorem dX1_holding_50 : decode cX1_holding 50 = .ok (.iconst 1, 1) := by decide +kernel
theorem dX1_holding_51 : decode cX1_holding 51 = .ok (.iload 4, 2) := by decide +kernel
theorem dX1_holding_53 : decode cX1_holding 53 = .ok (.ishl, 1) := by decide +kernel
theorem dX1_holding_54 : decode cX1_holding 54 = .ok (.ior, 1) := by decide +kernel
theorem dX1_holding_55 : decode cX1_holding 55 = .ok (.istore_n 3, 1) := by decide +kernel
theorem dX1_holding_56 : decode cX1_holding 56 = .ok (.iinc 4 1, 3) := by decide +kernel
theorem dX1_holding_59 : decode cX1_holding 59 = .ok (.goto (-54), 3) := by decide +kernel
theorem dX1_holding_62 : decode cX1_holding 62 = .ok (.iload_n 3, 1) := by decide +kernel
theorem dX1_holding_63 : decode cX1_holding 63 = .ok (.ireturn, 1) := by decide +kernel
theorem dX1_together_0 : decode cX1_together 0 = .ok (.iconst 0, 1) := by decide +kernel
theorem dX1_together_1 : decode cX1_together 1 = .ok (.istore_n 3, 1) := by decide +kernel
theorem dX1_together_2 : decode cX1_together 2 = .ok (.iconst 0, 1) := by decide +kernel
theorem dX1_together_3 : decode cX1_together 3 = .ok (.istore 4, 2) := by decide +kernel
theorem dX1_together_5 : decode cX1_together 5 = .ok (.iload 4, 2) := by decide +kernel
theorem dX1_together_7 : decode cX1_together 7 = .ok (.aload_n 0, 1) := by decide +kernel
theorem dX1_together_8 : decode cX1_together 8 = .ok (.getfield 27, 3) := by decide +kernel
theorem dX1_together_11 : decode cX1_together 11 = .ok (.if_icmp .ge 49, 3) := by decide +kernel
theorem dX1_together_14 : decode cX1_together 14 = .ok (.iload 4, 2) := by decide +kernel
theorem dX1_together_16 : decode cX1_together 16 = .ok (.bipush 24, 2) := by decide +kernel
theorem dX1_together_18 : decode cX1_together 18 = .ok (.if_icmp .ge 42, 3) := by decide +kernel
theorem dX1_together_21 : decode cX1_together 21 = .ok (.iload_n 1, 1) := by decide +kernel
theorem dX1_together_22 : decode cX1_together 22 = .ok (.iload 4, 2) := by decide +kernel
theorem dX1_together_24 : decode cX1_together 24 = .ok (.ishr, 1) := by decide +kernel
theorem dX1_together_25 : decode cX1_together 25 = .ok (.iconst 1, 1) := by decide +kernel
theorem dX1_together_26 : decode cX1_together 26 = .ok (.iand, 1) := by decide +kernel
theorem dX1_together_27 : decode cX1_together 27 = .ok (.ifCond .eq 27, 3) := by decide +kernel
theorem dX1_together_30 : decode cX1_together 30 = .ok (.aload_n 0, 1) := by decide +kernel
theorem dX1_together_31 : decode cX1_together 31 = .ok (.getfield 9, 3) := by decide +kernel
theorem dX1_together_34 : decode cX1_together 34 = .ok (.iload 4, 2) := by decide +kernel
theorem dX1_together_36 : decode cX1_together 36 = .ok (.iaload, 1) := by decide +kernel
theorem dX1_together_37 : decode cX1_together 37 = .ok (.iload_n 2, 1) := by decide +kernel
theorem dX1_together_38 : decode cX1_together 38 = .ok (.iconst (-1), 1) := by decide +kernel
theorem dX1_together_39 : decode cX1_together 39 = .ok (.ixor, 1) := by decide +kernel
theorem dX1_together_40 : decode cX1_together 40 = .ok (.iand, 1) := by decide +kernel
theorem dX1_together_41 : decode cX1_together 41 = .ok (.ifCond .ne 13, 3) := by decide +kernel
theorem dX1_together_44 : decode cX1_together 44 = .ok (.iload_n 3, 1) := by decide +kernel
theorem dX1_together_45 : decode cX1_together 45 = .ok (.aload_n 0, 1) := by decide +kernel
theorem dX1_together_46 : decode cX1_together 46 = .ok (.getfield 15, 3) := by decide +kernel
theorem dX1_together_49 : decode cX1_together 49 = .ok (.iload 4, 2) := by decide +kernel
theorem dX1_together_51 : decode cX1_together 51 = .ok (.iaload, 1) := by decide +kernel
theorem dX1_together_52 : decode cX1_together 52 = .ok (.iadd, 1) := by decide +kernel
theorem dX1_together_53 : decode cX1_together 53 = .ok (.istore_n 3, 1) := by decide +kernel
theorem dX1_together_54 : decode cX1_together 54 = .ok (.iinc 4 1, 3) := by decide +kernel
theorem dX1_together_57 : decode cX1_together 57 = .ok (.goto (-52), 3) := by decide +kernel
theorem dX1_together_60 : decode cX1_together 60 = .ok (.iload_n 3, 1) := by decide +kernel
theorem dX1_together_61 : decode cX1_together 61 = .ok (.ireturn, 1) := by decide +kernel
theorem dX2_init_0 : decode cX2_init 0 = .ok (.aload_n 0, 1) := by decide +kernel
theorem dX2_init_1 : decode cX2_init 1 = .ok (.invokespecial 3, 3) := by decide +kernel
theorem dX2_init_4 : decode cX2_init 4 = .ok (.aload_n 0, 1) := by decide +kernel
theorem dX2_init_5 : decode cX2_init 5 = .ok (.sipush 512, 3) := by decide +kernel
theorem dX2_init_8 : decode cX2_init 8 = .ok (.newarray .int, 2) := by decide +kernel
theorem dX2_init_10 : decode cX2_init 10 = .ok (.putfield 9, 3) := by decide +kernel
theorem dX2_init_13 : decode cX2_init 13 = .ok (.return_, 1) := by decide +kernel
theorem dX2_clear_0 : decode cX2_clear 0 = .ok (.aload_n 0, 1) := by decide +kernel
theorem dX2_clear_1 : decode cX2_clear 1 = .ok (.iconst 0, 1) := by decide +kernel
theorem dX2_clear_2 : decode cX2_clear 2 = .ok (.putfield 15, 3) := by decide +kernel
theorem dX2_clear_5 : decode cX2_clear 5 = .ok (.aload_n 0, 1) := by decide +kernel
theorem dX2_clear_6 : decode cX2_clear 6 = .ok (.iconst 0, 1) := by decide +kernel
theorem dX2_clear_7 : decode cX2_clear 7 = .ok (.putfield 19, 3) := by decide +kernel
theorem dX2_clear_10 : decode cX2_clear 10 = .ok (.return_, 1) := by decide +kernel
theorem dX2_take_0 : decode cX2_take 0 = .ok (.aload_n 1, 1) := by decide +kernel
theorem dX2_take_1 : decode cX2_take 1 = .ok (.getfield 9, 3) := by decide +kernel
theorem dX2_take_4 : decode cX2_take 4 = .ok (.iconst 0, 1) := by decide +kernel
theorem dX2_take_5 : decode cX2_take 5 = .ok (.aload_n 0, 1) := by decide +kernel
theorem dX2_take_6 : decode cX2_take 6 = .ok (.getfield 9, 3) := by decide +kernel
theorem dX2_take_9 : decode cX2_take 9 = .ok (.iconst 0, 1) := by decide +kernel
theorem dX2_take_10 : decode cX2_take 10 = .ok (.aload_n 1, 1) := by decide +kernel
theorem dX2_take_11 : decode cX2_take 11 = .ok (.getfield 15, 3) := by decide +kernel
theorem dX2_take_14 : decode cX2_take 14 = .ok (.invokestatic 22, 3) := by decide +kernel
theorem dX2_take_17 : decode cX2_take 17 = .ok (.aload_n 0, 1) := by decide +kernel
theorem dX2_take_18 : decode cX2_take 18 = .ok (.aload_n 1, 1) := by decide +kernel
theorem dX2_take_19 : decode cX2_take 19 = .ok (.getfield 15, 3) := by decide +kernel
theorem dX2_take_22 : decode cX2_take 22 = .ok (.putfield 15, 3) := by decide +kernel
theorem dX2_take_25 : decode cX2_take 25 = .ok (.aload_n 0, 1) := by decide +kernel
theorem dX2_take_26 : decode cX2_take 26 = .ok (.aload_n 1, 1) := by decide +kernel
theorem dX2_take_27 : decode cX2_take 27 = .ok (.getfield 19, 3) := by decide +kernel
theorem dX2_take_30 : decode cX2_take 30 = .ok (.putfield 19, 3) := by decide +kernel
theorem dX2_take_33 : decode cX2_take 33 = .ok (.return_, 1) := by decide +kernel
theorem dX2_add_0 : decode cX2_add 0 = .ok (.aload_n 0, 1) := by decide +kernel
theorem dX2_add_1 : decode cX2_add 1 = .ok (.getfield 15, 3) := by decide +kernel
theorem dX2_add_4 : decode cX2_add 4 = .ok (.sipush 512, 3) := by decide +kernel
theorem dX2_add_7 : decode cX2_add 7 = .ok (.if_icmp .ge 31, 3) := by decide +kernel
theorem dX2_add_10 : decode cX2_add 10 = .ok (.aload_n 0, 1) := by decide +kernel
theorem dX2_add_11 : decode cX2_add 11 = .ok (.getfield 9, 3) := by decide +kernel
theorem dX2_add_14 : decode cX2_add 14 = .ok (.aload_n 0, 1) := by decide +kernel
theorem dX2_add_15 : decode cX2_add 15 = .ok (.getfield 15, 3) := by decide +kernel
theorem dX2_add_18 : decode cX2_add 18 = .ok (.iload_n 1, 1) := by decide +kernel
theorem dX2_add_19 : decode cX2_add 19 = .ok (.bipush 17, 2) := by decide +kernel
theorem dX2_add_21 : decode cX2_add 21 = .ok (.ishl, 1) := by decide +kernel
theorem dX2_add_22 : decode cX2_add 22 = .ok (.iload_n 2, 1) := by decide +kernel
theorem dX2_add_23 : decode cX2_add 23 = .ok (.ldc 28, 2) := by decide +kernel
theorem dX2_add_25 : decode cX2_add 25 = .ok (.iand, 1) := by decide +kernel
theorem dX2_add_26 : decode cX2_add 26 = .ok (.ior, 1) := by decide +kernel
theorem dX2_add_27 : decode cX2_add 27 = .ok (.iastore, 1) := by decide +kernel
theorem dX2_add_28 : decode cX2_add 28 = .ok (.aload_n 0, 1) := by decide +kernel
theorem dX2_add_29 : decode cX2_add 29 = .ok (.dup, 1) := by decide +kernel
theorem dX2_add_30 : decode cX2_add 30 = .ok (.getfield 15, 3) := by decide +kernel
theorem dX2_add_33 : decode cX2_add 33 = .ok (.iconst 1, 1) := by decide +kernel
theorem dX2_add_34 : decode cX2_add 34 = .ok (.iadd, 1) := by decide +kernel
theorem dX2_add_35 : decode cX2_add 35 = .ok (.putfield 15, 3) := by decide +kernel
theorem dX2_add_38 : decode cX2_add 38 = .ok (.iload_n 1, 1) := by decide +kernel
theorem dX2_add_39 : decode cX2_add 39 = .ok (.bipush 47, 2) := by decide +kernel
theorem dX2_add_41 : decode cX2_add 41 = .ok (.if_icmp .ne 15, 3) := by decide +kernel
theorem dX2_add_44 : decode cX2_add 44 = .ok (.aload_n 0, 1) := by decide +kernel
theorem dX2_add_45 : decode cX2_add 45 = .ok (.dup, 1) := by decide +kernel
theorem dX2_add_46 : decode cX2_add 46 = .ok (.getfield 19, 3) := by decide +kernel
theorem dX2_add_49 : decode cX2_add 49 = .ok (.iconst 1, 1) := by decide +kernel
theorem dX2_add_50 : decode cX2_add 50 = .ok (.iload_n 2, 1) := by decide +kernel
theorem dX2_add_51 : decode cX2_add 51 = .ok (.ishl, 1) := by decide +kernel
theorem dX2_add_52 : decode cX2_add 52 = .ok (.ior, 1) := by decide +kernel
theorem dX2_add_53 : decode cX2_add 53 = .ok (.putfield 19, 3) := by decide +kernel
theorem dX2_add_56 : decode cX2_add 56 = .ok (.return_, 1) := by decide +kernel
theorem dX2_kindAt_0 : decode cX2_kindAt 0 = .ok (.iload_n 1, 1) := by decide +kernel
theorem dX2_kindAt_1 : decode cX2_kindAt 1 = .ok (.ifCond .lt 23, 3) := by decide +kernel
theorem dX2_kindAt_4 : decode cX2_kindAt 4 = .ok (.iload_n 1, 1) := by decide +kernel
theorem dX2_kindAt_5 : decode cX2_kindAt 5 = .ok (.aload_n 0, 1) := by decide +kernel
theorem dX2_kindAt_6 : decode cX2_kindAt 6 = .ok (.getfield 15, 3) := by decide +kernel
theorem dX2_kindAt_9 : decode cX2_kindAt 9 = .ok (.if_icmp .ge 15, 3) := by decide +kernel
theorem dX2_kindAt_12 : decode cX2_kindAt 12 = .ok (.aload_n 0, 1) := by decide +kernel
theorem dX2_kindAt_13 : decode cX2_kindAt 13 = .ok (.getfield 9, 3) := by decide +kernel
theorem dX2_kindAt_16 : decode cX2_kindAt 16 = .ok (.iload_n 1, 1) := by decide +kernel
theorem dX2_kindAt_17 : decode cX2_kindAt 17 = .ok (.iaload, 1) := by decide +kernel
theorem dX2_kindAt_18 : decode cX2_kindAt 18 = .ok (.bipush 17, 2) := by decide +kernel
theorem dX2_kindAt_20 : decode cX2_kindAt 20 = .ok (.ishr, 1) := by decide +kernel
theorem dX2_kindAt_21 : decode cX2_kindAt 21 = .ok (.goto 5, 3) := by decide +kernel
theorem dX2_kindAt_24 : decode cX2_kindAt 24 = .ok (.bipush 48, 2) := by decide +kernel
theorem dX2_kindAt_26 : decode cX2_kindAt 26 = .ok (.ireturn, 1) := by decide +kernel
theorem dX2_numberAt_0 : decode cX2_numberAt 0 = .ok (.iload_n 1, 1) := by decide +kernel
theorem dX2_numberAt_1 : decode cX2_numberAt 1 = .ok (.ifCond .lt 23, 3) := by decide +kernel
theorem dX2_numberAt_4 : decode cX2_numberAt 4 = .ok (.iload_n 1, 1) := by decide +kernel
theorem dX2_numberAt_5 : decode cX2_numberAt 5 = .ok (.aload_n 0, 1) := by decide +kernel
theorem dX2_numberAt_6 : decode cX2_numberAt 6 = .ok (.getfield 15, 3) := by decide +kernel
theorem dX2_numberAt_9 : decode cX2_numberAt 9 = .ok (.if_icmp .ge 15, 3) := by decide +kernel
theorem dX2_numberAt_12 : decode cX2_numberAt 12 = .ok (.aload_n 0, 1) := by decide +kernel
theorem dX2_numberAt_13 : decode cX2_numberAt 13 = .ok (.getfield 9, 3) := by decide +kernel
theorem dX2_numberAt_16 : decode cX2_numberAt 16 = .ok (.iload_n 1, 1) := by decide +kernel
theorem dX2_numberAt_17 : decode cX2_numberAt 17 = .ok (.iaload, 1) := by decide +kernel
theorem dX2_numberAt_18 : decode cX2_numberAt 18 = .ok (.ldc 28, 2) := by decide +kernel
theorem dX2_numberAt_20 : decode cX2_numberAt 20 = .ok (.iand, 1) := by decide +kernel
theorem dX2_numberAt_21 : decode cX2_numberAt 21 = .ok (.goto 4, 3) := by decide +kernel
theorem dX2_numberAt_24 : decode cX2_numberAt 24 = .ok (.iconst 0, 1) := by decide +kernel
theorem dX2_numberAt_25 : decode cX2_numberAt 25 = .ok (.ireturn, 1) := by decide +kernel
theorem dX2_asks_0 : decode cX2_asks 0 = .ok (.aload_n 0, 1) := by decide +kernel
theorem dX2_asks_1 : decode cX2_asks 1 = .ok (.getfield 19, 3) := by decide +kernel
theorem dX2_asks_4 : decode cX2_asks 4 = .ok (.iload_n 1, 1) := by decide +kernel
theorem dX2_asks_5 : decode cX2_asks 5 = .ok (.ishr, 1) := by decide +kernel
theorem dX2_asks_6 : decode cX2_asks 6 = .ok (.iconst 1, 1) := by decide +kernel
theorem dX2_asks_7 : decode cX2_asks 7 = .ok (.iand, 1) := by decide +kernel
theorem dX2_asks_8 : decode cX2_asks 8 = .ok (.ifCond .eq 7, 3) := by decide +kernel
theorem dX2_asks_11 : decode cX2_asks 11 = .ok (.iconst 1, 1) := by decide +kernel
theorem dX2_asks_12 : decode cX2_asks 12 = .ok (.goto 4, 3) := by decide +kernel
theorem dX2_asks_15 : decode cX2_asks 15 = .ok (.iconst 0, 1) := by decide +kernel
theorem dX2_asks_16 : decode cX2_asks 16 = .ok (.ireturn, 1) := by decide +kernel
theorem dX3_init_0 : decode cX3_init 0 = .ok (.aload_n 0, 1) := by decide +kernel
theorem dX3_init_1 : decode cX3_init 1 = .ok (.invokespecial 3, 3) := by decide +kernel
theorem dX3_init_4 : decode cX3_init 4 = .ok (.return_, 1) := by decide +kernel
theorem dX3_work_0 : decode cX3_work 0 = .ok (.lconst 0, 1) := by decide +kernel
theorem dX3_work_1 : decode cX3_work 1 = .ok (.lstore_n 3, 1) := by decide +kernel
theorem dX3_work_2 : decode cX3_work 2 = .ok (.iconst 0, 1) := by decide +kernel
theorem dX3_work_3 : decode cX3_work 3 = .ok (.istore 5, 2) := by decide +kernel
theorem dX3_work_5 : decode cX3_work 5 = .ok (.iload 5, 2) := by decide +kernel
theorem dX3_work_7 : decode cX3_work 7 = .ok (.iload_n 1, 1) := by decide +kernel
theorem dX3_work_8 : decode cX3_work 8 = .ok (.if_icmp .ge 54, 3) := by decide +kernel
theorem dX3_work_11 : decode cX3_work 11 = .ok (.aload_n 0, 1) := by decide +kernel
theorem dX3_work_12 : decode cX3_work 12 = .ok (.aload_n 0, 1) := by decide +kernel
theorem dX3_work_13 : decode cX3_work 13 = .ok (.getfield 9, 3) := by decide +kernel
theorem dX3_work_16 : decode cX3_work 16 = .ok (.ldc2_w 15, 3) := by decide +kernel
theorem dX3_work_19 : decode cX3_work 19 = .ok (.lmul, 1) := by decide +kernel
theorem dX3_work_20 : decode cX3_work 20 = .ok (.ldc2_w 17, 3) := by decide +kernel
theorem dX3_work_23 : decode cX3_work 23 = .ok (.ladd, 1) := by decide +kernel
theorem dX3_work_24 : decode cX3_work 24 = .ok (.ldc2_w 19, 3) := by decide +kernel
theorem dX3_work_27 : decode cX3_work 27 = .ok (.lrem, 1) := by decide +kernel
theorem dX3_work_28 : decode cX3_work 28 = .ok (.putfield 9, 3) := by decide +kernel
theorem dX3_work_31 : decode cX3_work 31 = .ok (.aload_n 0, 1) := by decide +kernel
theorem dX3_work_32 : decode cX3_work 32 = .ok (.getfield 9, 3) := by decide +kernel
theorem dX3_work_35 : decode cX3_work 35 = .ok (.ldc2_w 21, 3) := by decide +kernel
theorem dX3_work_38 : decode cX3_work 38 = .ok (.ldiv, 1) := by decide +kernel
theorem dX3_work_39 : decode cX3_work 39 = .ok (.ldc2_w 23, 3) := by decide +kernel
theorem dX3_work_42 : decode cX3_work 42 = .ok (.lrem, 1) := by decide +kernel
theorem dX3_work_43 : decode cX3_work 43 = .ok (.iload_n 2, 1) := by decide +kernel
theorem dX3_work_44 : decode cX3_work 44 = .ok (.i2l, 1) := by decide +kernel
theorem dX3_work_45 : decode cX3_work 45 = .ok (.lcmp, 1) := by decide +kernel
theorem dX3_work_46 : decode cX3_work 46 = .ok (.ifCond .ge 10, 3) := by decide +kernel
theorem dX3_work_49 : decode cX3_work 49 = .ok (.lload_n 3, 1) := by decide +kernel
theorem dX3_work_50 : decode cX3_work 50 = .ok (.lconst 1, 1) := by decide +kernel
theorem dX3_work_51 : decode cX3_work 51 = .ok (.iload 5, 2) := by decide +kernel
theorem dX3_work_53 : decode cX3_work 53 = .ok (.lshl, 1) := by decide +kernel
theorem dX3_work_54 : decode cX3_work 54 = .ok (.lor, 1) := by decide +kernel
theorem dX3_work_55 : decode cX3_work 55 = .ok (.lstore_n 3, 1) := by decide +kernel
theorem dX3_work_56 : decode cX3_work 56 = .ok (.iinc 5 1, 3) := by decide +kernel
theorem dX3_work_59 : decode cX3_work 59 = .ok (.goto (-54), 3) := by decide +kernel
theorem dX3_work_62 : decode cX3_work 62 = .ok (.lload_n 3, 1) := by decide +kernel
theorem dX3_work_63 : decode cX3_work 63 = .ok (.lreturn, 1) := by decide +kernel
theorem dX4_init_0 : decode cX4_init 0 = .ok (.aload_n 0, 1) := by decide +kernel
theorem dX4_init_1 : decode cX4_init 1 = .ok (.invokespecial 3, 3) := by decide +kernel
theorem dX4_init_4 : decode cX4_init 4 = .ok (.aload_n 0, 1) := by decide +kernel
theorem dX4_init_5 : decode cX4_init 5 = .ok (.aload_n 1, 1) := by decide +kernel
theorem dX4_init_6 : decode cX4_init 6 = .ok (.putfield 9, 3) := by decide +kernel
theorem dX4_init_9 : decode cX4_init 9 = .ok (.aload_n 0, 1) := by decide +kernel
theorem dX4_init_10 : decode cX4_init 10 = .ok (.aload_n 2, 1) := by decide +kernel
theorem dX4_init_11 : decode cX4_init 11 = .ok (.putfield 15, 3) := by decide +kernel
theorem dX4_init_14 : decode cX4_init 14 = .ok (.aload_n 0, 1) := by decide +kernel
theorem dX4_init_15 : decode cX4_init 15 = .ok (.new 19, 3) := by decide +kernel
theorem dX4_init_18 : decode cX4_init 18 = .ok (.dup, 1) := by decide +kernel
theorem dX4_init_19 : decode cX4_init 19 = .ok (.invokespecial 21, 3) := by decide +kernel
theorem dX4_init_22 : decode cX4_init 22 = .ok (.putfield 22, 3) := by decide +kernel
theorem dX4_init_25 : decode cX4_init 25 = .ok (.aload_n 0, 1) := by decide +kernel
theorem dX4_init_26 : decode cX4_init 26 = .ok (.bipush 60, 2) := by decide +kernel
theorem dX4_init_28 : decode cX4_init 28 = .ok (.newarray .int, 2) := by decide +kernel
theorem dX4_init_30 : decode cX4_init 30 = .ok (.putfield 25, 3) := by decide +kernel
theorem dX4_init_33 : decode cX4_init 33 = .ok (.aload_n 0, 1) := by decide +kernel
theorem dX4_init_34 : decode cX4_init 34 = .ok (.bipush 60, 2) := by decide +kernel
theorem dX4_init_36 : decode cX4_init 36 = .ok (.newarray .int, 2) := by decide +kernel
theorem dX4_init_38 : decode cX4_init 38 = .ok (.putfield 29, 3) := by decide +kernel
theorem dX4_init_41 : decode cX4_init 41 = .ok (.aload_n 0, 1) := by decide +kernel
theorem dX4_init_42 : decode cX4_init 42 = .ok (.bipush 8, 2) := by decide +kernel
theorem dX4_init_44 : decode cX4_init 44 = .ok (.newarray .int, 2) := by decide +kernel
theorem dX4_init_46 : decode cX4_init 46 = .ok (.putfield 32, 3) := by decide +kernel
theorem dX4_init_49 : decode cX4_init 49 = .ok (.aload_n 0, 1) := by decide +kernel
theorem dX4_init_50 : decode cX4_init 50 = .ok (.bipush 8, 2) := by decide +kernel
theorem dX4_init_52 : decode cX4_init 52 = .ok (.newarray .int, 2) := by decide +kernel
theorem dX4_init_54 : decode cX4_init 54 = .ok (.putfield 35, 3) := by decide +kernel
theorem dX4_init_57 : decode cX4_init 57 = .ok (.aload_n 0, 1) := by decide +kernel
theorem dX4_init_58 : decode cX4_init 58 = .ok (.bipush 8, 2) := by decide +kernel
theorem dX4_init_60 : decode cX4_init 60 = .ok (.newarray .int, 2) := by decide +kernel
theorem dX4_init_62 : decode cX4_init 62 = .ok (.putfield 38, 3) := by decide +kernel
theorem dX4_init_65 : decode cX4_init 65 = .ok (.aload_n 0, 1) := by decide +kernel
theorem dX4_init_66 : decode cX4_init 66 = .ok (.bipush 8, 2) := by decide +kernel
theorem dX4_init_68 : decode cX4_init 68 = .ok (.newarray .int, 2) := by decide +kernel
theorem dX4_init_70 : decode cX4_init 70 = .ok (.putfield 41, 3) := by decide +kernel
theorem dX4_init_73 : decode cX4_init 73 = .ok (.return_, 1) := by decide +kernel
theorem dX4_begin_0 : decode cX4_begin 0 = .ok (.aload_n 0, 1) := by decide +kernel
theorem dX4_begin_1 : decode cX4_begin 1 = .ok (.aload_n 0, 1) := by decide +kernel
theorem dX4_begin_2 : decode cX4_begin 2 = .ok (.getfield 9, 3) := by decide +kernel
theorem dX4_begin_5 : decode cX4_begin 5 = .ok (.getfield 44, 3) := by decide +kernel
theorem dX4_begin_8 : decode cX4_begin 8 = .ok (.putfield 50, 3) := by decide +kernel
theorem dX4_begin_11 : decode cX4_begin 11 = .ok (.aload_n 0, 1) := by decide +kernel
theorem dX4_begin_12 : decode cX4_begin 12 = .ok (.iconst 0, 1) := by decide +kernel
theorem dX4_begin_13 : decode cX4_begin 13 = .ok (.putfield 51, 3) := by decide +kernel
theorem dX4_begin_16 : decode cX4_begin 16 = .ok (.aload_n 0, 1) := by decide +kernel
theorem dX4_begin_17 : decode cX4_begin 17 = .ok (.iconst 0, 1) := by decide +kernel
theorem dX4_begin_18 : decode cX4_begin 18 = .ok (.putfield 54, 3) := by decide +kernel
theorem dX4_begin_21 : decode cX4_begin 21 = .ok (.aload_n 0, 1) := by decide +kernel
theorem dX4_begin_22 : decode cX4_begin 22 = .ok (.iconst (-1), 1) := by decide +kernel
theorem dX4_begin_23 : decode cX4_begin 23 = .ok (.putfield 57, 3) := by decide +kernel
theorem dX4_begin_26 : decode cX4_begin 26 = .ok (.aload_n 0, 1) := by decide +kernel
theorem dX4_begin_27 : decode cX4_begin 27 = .ok (.iconst (-1), 1) := by decide +kernel
theorem dX4_begin_28 : decode cX4_begin 28 = .ok (.putfield 60, 3) := by decide +kernel
theorem dX4_begin_31 : decode cX4_begin 31 = .ok (.aload_n 0, 1) := by decide +kernel
theorem dX4_begin_32 : decode cX4_begin 32 = .ok (.iconst 0, 1) := by decide +kernel
theorem dX4_begin_33 : decode cX4_begin 33 = .ok (.putfield 63, 3) := by decide +kernel
theorem dX4_begin_36 : decode cX4_begin 36 = .ok (.aload_n 0, 1) := by decide +kernel
theorem dX4_begin_37 : decode cX4_begin 37 = .ok (.iconst 0, 1) := by decide +kernel
theorem dX4_begin_38 : decode cX4_begin 38 = .ok (.putfield 66, 3) := by decide +kernel
theorem dX4_begin_41 : decode cX4_begin 41 = .ok (.aload_n 0, 1) := by decide +kernel
theorem dX4_begin_42 : decode cX4_begin 42 = .ok (.iconst 0, 1) := by decide +kernel
theorem dX4_begin_43 : decode cX4_begin 43 = .ok (.putfield 69, 3) := by decide +kernel
theorem dX4_begin_46 : decode cX4_begin 46 = .ok (.iconst 0, 1) := by decide +kernel
theorem dX4_begin_47 : decode cX4_begin 47 = .ok (.istore_n 1, 1) := by decide +kernel
theorem dX4_begin_48 : decode cX4_begin 48 = .ok (.iload_n 1, 1) := by decide +kernel
theorem dX4_begin_49 : decode cX4_begin 49 = .ok (.bipush 8, 2) := by decide +kernel
theorem dX4_begin_51 : decode cX4_begin 51 = .ok (.if_icmp .ge 53, 3) := by decide +kernel
theorem dX4_begin_54 : decode cX4_begin 54 = .ok (.aload_n 0, 1) := by decide +kernel
theorem dX4_begin_55 : decode cX4_begin 55 = .ok (.getfield 35, 3) := by decide +kernel
theorem dX4_begin_58 : decode cX4_begin 58 = .ok (.iload_n 1, 1) := by decide +kernel
theorem dX4_begin_59 : decode cX4_begin 59 = .ok (.aload_n 0, 1) := by decide +kernel
theorem dX4_begin_60 : decode cX4_begin 60 = .ok (.getfield 9, 3) := by decide +kernel
theorem dX4_begin_63 : decode cX4_begin 63 = .ok (.getfield 73, 3) := by decide +kernel
theorem dX4_begin_66 : decode cX4_begin 66 = .ok (.iload_n 1, 1) := by decide +kernel
theorem dX4_begin_67 : decode cX4_begin 67 = .ok (.iaload, 1) := by decide +kernel
theorem dX4_begin_68 : decode cX4_begin 68 = .ok (.iastore, 1) := by decide +kernel
theorem dX4_begin_69 : decode cX4_begin 69 = .ok (.aload_n 0, 1) := by decide +kernel
theorem dX4_begin_70 : decode cX4_begin 70 = .ok (.getfield 38, 3) := by decide +kernel
theorem dX4_begin_73 : decode cX4_begin 73 = .ok (.iload_n 1, 1) := by decide +kernel
theorem dX4_begin_74 : decode cX4_begin 74 = .ok (.aload_n 0, 1) := by decide +kernel
theorem dX4_begin_75 : decode cX4_begin 75 = .ok (.getfield 9, 3) := by decide +kernel
theorem dX4_begin_78 : decode cX4_begin 78 = .ok (.getfield 74, 3) := by decide +kernel
theorem dX4_begin_81 : decode cX4_begin 81 = .ok (.iload_n 1, 1) := by decide +kernel
theorem dX4_begin_82 : decode cX4_begin 82 = .ok (.iaload, 1) := by decide +kernel
theorem dX4_begin_83 : decode cX4_begin 83 = .ok (.iastore, 1) := by decide +kernel
theorem dX4_begin_84 : decode cX4_begin 84 = .ok (.aload_n 0, 1) := by decide +kernel
theorem dX4_begin_85 : decode cX4_begin 85 = .ok (.getfield 41, 3) := by decide +kernel
theorem dX4_begin_88 : decode cX4_begin 88 = .ok (.iload_n 1, 1) := by decide +kernel
theorem dX4_begin_89 : decode cX4_begin 89 = .ok (.iconst 0, 1) := by decide +kernel
theorem dX4_begin_90 : decode cX4_begin 90 = .ok (.iastore, 1) := by decide +kernel
theorem dX4_begin_91 : decode cX4_begin 91 = .ok (.aload_n 0, 1) := by decide +kernel
theorem dX4_begin_92 : decode cX4_begin 92 = .ok (.getfield 32, 3) := by decide +kernel
theorem dX4_begin_95 : decode cX4_begin 95 = .ok (.iload_n 1, 1) := by decide +kernel
theorem dX4_begin_96 : decode cX4_begin 96 = .ok (.iconst (-1), 1) := by decide +kernel
theorem dX4_begin_97 : decode cX4_begin 97 = .ok (.iastore, 1) := by decide +kernel
theorem dX4_begin_98 : decode cX4_begin 98 = .ok (.iinc 1 1, 3) := by decide +kernel
theorem dX4_begin_101 : decode cX4_begin 101 = .ok (.goto (-53), 3) := by decide +kernel
theorem dX4_begin_104 : decode cX4_begin 104 = .ok (.return_, 1) := by decide +kernel
theorem dX4_isWell_0 : decode cX4_isWell 0 = .ok (.aload_n 0, 1) := by decide +kernel
theorem dX4_isWell_1 : decode cX4_isWell 1 = .ok (.getfield 57, 3) := by decide +kernel
theorem dX4_isWell_4 : decode cX4_isWell 4 = .ok (.iconst (-1), 1) := by decide +kernel
theorem dX4_isWell_5 : decode cX4_isWell 5 = .ok (.if_icmp .ne 15, 3) := by decide +kernel
theorem dX4_isWell_8 : decode cX4_isWell 8 = .ok (.aload_n 0, 1) := by decide +kernel
theorem dX4_isWell_9 : decode cX4_isWell 9 = .ok (.getfield 60, 3) := by decide +kernel
theorem dX4_isWell_12 : decode cX4_isWell 12 = .ok (.iconst (-1), 1) := by decide +kernel
theorem dX4_isWell_13 : decode cX4_isWell 13 = .ok (.if_icmp .ne 7, 3) := by decide +kernel
theorem dX4_isWell_16 : decode cX4_isWell 16 = .ok (.iconst 1, 1) := by decide +kernel
theorem dX4_isWell_17 : decode cX4_isWell 17 = .ok (.goto 4, 3) := by decide +kernel
theorem dX4_isWell_20 : decode cX4_isWell 20 = .ok (.iconst 0, 1) := by decide +kernel
theorem dX4_isWell_21 : decode cX4_isWell 21 = .ok (.ireturn, 1) := by decide +kernel
theorem dX4_liveByRow_0 : decode cX4_liveByRow 0 = .ok (.aload_n 0, 1) := by decide +kernel
theorem dX4_liveByRow_1 : decode cX4_liveByRow 1 = .ok (.invokevirtual 75, 3) := by decide +kernel
theorem dX4_liveByRow_4 : decode cX4_liveByRow 4 = .ok (.iconst 0, 1) := by decide +kernel
theorem dX4_liveByRow_5 : decode cX4_liveByRow 5 = .ok (.istore 4, 2) := by decide +kernel
theorem dX4_liveByRow_7 : decode cX4_liveByRow 7 = .ok (.iconst 0, 1) := by decide +kernel
theorem dX4_liveByRow_8 : decode cX4_liveByRow 8 = .ok (.istore 5, 2) := by decide +kernel
theorem dX4_liveByRow_10 : decode cX4_liveByRow 10 = .ok (.iload 5, 2) := by decide +kernel
theorem dX4_liveByRow_12 : decode cX4_liveByRow 12 = .ok (.aload_n 0, 1) := by decide +kernel
theorem dX4_liveByRow_13 : decode cX4_liveByRow 13 = .ok (.getfield 9, 3) := by decide +kernel
theorem dX4_liveByRow_16 : decode cX4_liveByRow 16 = .ok (.getfield 78, 3) := by decide +kernel
theorem dX4_liveByRow_19 : decode cX4_liveByRow 19 = .ok (.if_icmp .ge 77, 3) := by decide +kernel
theorem dX4_liveByRow_22 : decode cX4_liveByRow 22 = .ok (.iload 5, 2) := by decide +kernel
theorem dX4_liveByRow_24 : decode cX4_liveByRow 24 = .ok (.bipush 60, 2) := by decide +kernel
theorem dX4_liveByRow_26 : decode cX4_liveByRow 26 = .ok (.if_icmp .ge 70, 3) := by decide +kernel
theorem dX4_liveByRow_29 : decode cX4_liveByRow 29 = .ok (.aload_n 0, 1) := by decide +kernel
theorem dX4_liveByRow_30 : decode cX4_liveByRow 30 = .ok (.iload 5, 2) := by decide +kernel
theorem dX4_liveByRow_32 : decode cX4_liveByRow 32 = .ok (.invokevirtual 81, 3) := by decide +kernel
theorem dX4_liveByRow_35 : decode cX4_liveByRow 35 = .ok (.aload_n 0, 1) := by decide +kernel
theorem dX4_liveByRow_36 : decode cX4_liveByRow 36 = .ok (.invokevirtual 85, 3) := by decide +kernel
theorem dX4_liveByRow_39 : decode cX4_liveByRow 39 = .ok (.ifCond .eq 14, 3) := by decide +kernel
theorem dX4_liveByRow_42 : decode cX4_liveByRow 42 = .ok (.aload_n 0, 1) := by decide +kernel
theorem dX4_liveByRow_43 : decode cX4_liveByRow 43 = .ok (.aload_n 1, 1) := by decide +kernel
theorem dX4_liveByRow_44 : decode cX4_liveByRow 44 = .ok (.iload 4, 2) := by decide +kernel
theorem dX4_liveByRow_46 : decode cX4_liveByRow 46 = .ok (.iload 5, 2) := by decide +kernel
theorem dX4_liveByRow_48 : decode cX4_liveByRow 48 = .ok (.invokevirtual 89, 3) := by decide +kernel
theorem dX4_liveByRow_51 : decode cX4_liveByRow 51 = .ok (.istore 4, 2) := by decide +kernel
theorem dX4_liveByRow_53 : decode cX4_liveByRow 53 = .ok (.aload_n 0, 1) := by decide +kernel
theorem dX4_liveByRow_54 : decode cX4_liveByRow 54 = .ok (.invokevirtual 85, 3) := by decide +kernel
theorem dX4_liveByRow_57 : decode cX4_liveByRow 57 = .ok (.ifCond .eq 25, 3) := by decide +kernel
theorem dX4_liveByRow_60 : decode cX4_liveByRow 60 = .ok (.aload_n 0, 1) := by decide +kernel
theorem dX4_liveByRow_61 : decode cX4_liveByRow 61 = .ok (.iload 5, 2) := by decide +kernel
theorem dX4_liveByRow_63 : decode cX4_liveByRow 63 = .ok (.lload_n 2, 1) := by decide +kernel
theorem dX4_liveByRow_64 : decode cX4_liveByRow 64 = .ok (.iload 5, 2) := by decide +kernel
theorem dX4_liveByRow_66 : decode cX4_liveByRow 66 = .ok (.lshr, 1) := by decide +kernel
theorem dX4_liveByRow_67 : decode cX4_liveByRow 67 = .ok (.lconst 1, 1) := by decide +kernel
theorem dX4_liveByRow_68 : decode cX4_liveByRow 68 = .ok (.land, 1) := by decide +kernel
theorem dX4_liveByRow_69 : decode cX4_liveByRow 69 = .ok (.lconst 0, 1) := by decide +kernel
theorem dX4_liveByRow_70 : decode cX4_liveByRow 70 = .ok (.lcmp, 1) := by decide +kernel
theorem dX4_liveByRow_71 : decode cX4_liveByRow 71 = .ok (.ifCond .eq 7, 3) := by decide +kernel
theorem dX4_liveByRow_74 : decode cX4_liveByRow 74 = .ok (.iconst 1, 1) := by decide +kernel
theorem dX4_liveByRow_75 : decode cX4_liveByRow 75 = .ok (.goto 4, 3) := by decide +kernel
theorem dX4_liveByRow_78 : decode cX4_liveByRow 78 = .ok (.iconst 0, 1) := by decide +kernel
theorem dX4_liveByRow_79 : decode cX4_liveByRow 79 = .ok (.invokevirtual 93, 3) := by decide +kernel
theorem dX4_liveByRow_82 : decode cX4_liveByRow 82 = .ok (.aload_n 0, 1) := by decide +kernel
theorem dX4_liveByRow_83 : decode cX4_liveByRow 83 = .ok (.invokevirtual 85, 3) := by decide +kernel
theorem dX4_liveByRow_86 : decode cX4_liveByRow 86 = .ok (.ifCond .ne 4, 3) := by decide +kernel
theorem dX4_liveByRow_89 : decode cX4_liveByRow 89 = .ok (.return_, 1) := by decide +kernel
theorem dX4_liveByRow_90 : decode cX4_liveByRow 90 = .ok (.iinc 5 1, 3) := by decide +kernel
theorem dX4_liveByRow_93 : decode cX4_liveByRow 93 = .ok (.goto (-83), 3) := by decide +kernel
theorem dX4_liveByRow_96 : decode cX4_liveByRow 96 = .ok (.iload 4, 2) := by decide +kernel
theorem dX4_liveByRow_98 : decode cX4_liveByRow 98 = .ok (.aload_n 1, 1) := by decide +kernel
theorem dX4_liveByRow_99 : decode cX4_liveByRow 99 = .ok (.getfield 97, 3) := by decide +kernel
theorem dX4_liveByRow_102 : decode cX4_liveByRow 102 = .ok (.if_icmp .ge 9, 3) := by decide +kernel
theorem dX4_liveByRow_105 : decode cX4_liveByRow 105 = .ok (.aload_n 0, 1) := by decide +kernel
theorem dX4_liveByRow_106 : decode cX4_liveByRow 106 = .ok (.iload 4, 2) := by decide +kernel
theorem dX4_liveByRow_108 : decode cX4_liveByRow 108 = .ok (.putfield 57, 3) := by decide +kernel
theorem dX4_liveByRow_111 : decode cX4_liveByRow 111 = .ok (.return_, 1) := by decide +kernel
theorem dX4_liveByRule_0 : decode cX4_liveByRule 0 = .ok (.aload_n 0, 1) := by decide +kernel
theorem dX4_liveByRule_1 : decode cX4_liveByRule 1 = .ok (.invokevirtual 75, 3) := by decide +kernel
theorem dX4_liveByRule_4 : decode cX4_liveByRule 4 = .ok (.iconst 0, 1) := by decide +kernel
theorem dX4_liveByRule_5 : decode cX4_liveByRule 5 = .ok (.istore 4, 2) := by decide +kernel
theorem dX4_liveByRule_7 : decode cX4_liveByRule 7 = .ok (.iload 4, 2) := by decide +kernel
theorem dX4_liveByRule_9 : decode cX4_liveByRule 9 = .ok (.aload_n 0, 1) := by decide +kernel
theorem dX4_liveByRule_10 : decode cX4_liveByRule 10 = .ok (.getfield 9, 3) := by decide +kernel
theorem dX4_liveByRule_13 : decode cX4_liveByRule 13 = .ok (.getfield 78, 3) := by decide +kernel
theorem dX4_liveByRule_16 : decode cX4_liveByRule 16 = .ok (.if_icmp .ge 97, 3) := by decide +kernel
theorem dX4_liveByRule_19 : decode cX4_liveByRule 19 = .ok (.iload 4, 2) := by decide +kernel
theorem dX4_liveByRule_21 : decode cX4_liveByRule 21 = .ok (.bipush 60, 2) := by decide +kernel
theorem dX4_liveByRule_23 : decode cX4_liveByRule 23 = .ok (.if_icmp .ge 90, 3) := by decide +kernel
theorem dX4_liveByRule_26 : decode cX4_liveByRule 26 = .ok (.aload_n 0, 1) := by decide +kernel
theorem dX4_liveByRule_27 : decode cX4_liveByRule 27 = .ok (.iload 4, 2) := by decide +kernel
theorem dX4_liveByRule_29 : decode cX4_liveByRule 29 = .ok (.invokevirtual 81, 3) := by decide +kernel
theorem dX4_liveByRule_32 : decode cX4_liveByRule 32 = .ok (.iconst 0, 1) := by decide +kernel
theorem dX4_liveByRule_33 : decode cX4_liveByRule 33 = .ok (.istore 5, 2) := by decide +kernel
theorem dX4_liveByRule_35 : decode cX4_liveByRule 35 = .ok (.iload 5, 2) := by decide +kernel
theorem dX4_liveByRule_37 : decode cX4_liveByRule 37 = .ok (.bipush 8, 2) := by decide +kernel
theorem dX4_liveByRule_39 : decode cX4_liveByRule 39 = .ok (.if_icmp .ge 38, 3) := by decide +kernel
theorem dX4_liveByRule_42 : decode cX4_liveByRule 42 = .ok (.aload_n 0, 1) := by decide +kernel
theorem dX4_liveByRule_43 : decode cX4_liveByRule 43 = .ok (.aload_n 1, 1) := by decide +kernel
theorem dX4_liveByRule_44 : decode cX4_liveByRule 44 = .ok (.iload 4, 2) := by decide +kernel
theorem dX4_liveByRule_46 : decode cX4_liveByRule 46 = .ok (.invokevirtual 102, 3) := by decide +kernel
theorem dX4_liveByRule_49 : decode cX4_liveByRule 49 = .ok (.istore 6, 2) := by decide +kernel
theorem dX4_liveByRule_51 : decode cX4_liveByRule 51 = .ok (.iload 6, 2) := by decide +kernel
theorem dX4_liveByRule_53 : decode cX4_liveByRule 53 = .ok (.iconst (-1), 1) := by decide +kernel
theorem dX4_liveByRule_54 : decode cX4_liveByRule 54 = .ok (.if_icmp .eq 23, 3) := by decide +kernel
theorem dX4_liveByRule_57 : decode cX4_liveByRule 57 = .ok (.aload_n 0, 1) := by decide +kernel
theorem dX4_liveByRule_58 : decode cX4_liveByRule 58 = .ok (.iload 6, 2) := by decide +kernel
theorem dX4_liveByRule_60 : decode cX4_liveByRule 60 = .ok (.iload 4, 2) := by decide +kernel
theorem dX4_liveByRule_62 : decode cX4_liveByRule 62 = .ok (.invokevirtual 106, 3) := by decide +kernel
theorem dX4_liveByRule_65 : decode cX4_liveByRule 65 = .ok (.ifCond .ne 6, 3) := by decide +kernel
theorem dX4_liveByRule_68 : decode cX4_liveByRule 68 = .ok (.goto 9, 3) := by decide +kernel
theorem dX4_liveByRule_71 : decode cX4_liveByRule 71 = .ok (.iinc 5 1, 3) := by decide +kernel
theorem dX4_liveByRule_74 : decode cX4_liveByRule 74 = .ok (.goto (-39), 3) := by decide +kernel
theorem dX4_liveByRule_77 : decode cX4_liveByRule 77 = .ok (.aload_n 0, 1) := by decide +kernel
theorem dX4_liveByRule_78 : decode cX4_liveByRule 78 = .ok (.iload 4, 2) := by decide +kernel
theorem dX4_liveByRule_80 : decode cX4_liveByRule 80 = .ok (.lload_n 2, 1) := by decide +kernel
theorem dX4_liveByRule_81 : decode cX4_liveByRule 81 = .ok (.iload 4, 2) := by decide +kernel
theorem dX4_liveByRule_83 : decode cX4_liveByRule 83 = .ok (.lshr, 1) := by decide +kernel
theorem dX4_liveByRule_84 : decode cX4_liveByRule 84 = .ok (.lconst 1, 1) := by decide +kernel
theorem dX4_liveByRule_85 : decode cX4_liveByRule 85 = .ok (.land, 1) := by decide +kernel
theorem dX4_liveByRule_86 : decode cX4_liveByRule 86 = .ok (.lconst 0, 1) := by decide +kernel
theorem dX4_liveByRule_87 : decode cX4_liveByRule 87 = .ok (.lcmp, 1) := by decide +kernel
theorem dX4_liveByRule_88 : decode cX4_liveByRule 88 = .ok (.ifCond .eq 7, 3) := by decide +kernel
theorem dX4_liveByRule_91 : decode cX4_liveByRule 91 = .ok (.iconst 1, 1) := by decide +kernel
theorem dX4_liveByRule_92 : decode cX4_liveByRule 92 = .ok (.goto 4, 3) := by decide +kernel
theorem dX4_liveByRule_95 : decode cX4_liveByRule 95 = .ok (.iconst 0, 1) := by decide +kernel
theorem dX4_liveByRule_96 : decode cX4_liveByRule 96 = .ok (.invokevirtual 93, 3) := by decide +kernel
theorem dX4_liveByRule_99 : decode cX4_liveByRule 99 = .ok (.aload_n 0, 1) := by decide +kernel
theorem dX4_liveByRule_100 : decode cX4_liveByRule 100 = .ok (.invokevirtual 85, 3) := by decide +kernel
theorem dX4_liveByRule_103 : decode cX4_liveByRule 103 = .ok (.ifCond .ne 4, 3) := by decide +kernel
theorem dX4_liveByRule_106 : decode cX4_liveByRule 106 = .ok (.return_, 1) := by decide +kernel
theorem dX4_liveByRule_107 : decode cX4_liveByRule 107 = .ok (.iinc 4 1, 3) := by decide +kernel
theorem dX4_liveByRule_110 : decode cX4_liveByRule 110 = .ok (.goto (-103), 3) := by decide +kernel
theorem dX4_liveByRule_113 : decode cX4_liveByRule 113 = .ok (.return_, 1) := by decide +kernel
theorem dX4_startWeek_0 : decode cX4_startWeek 0 = .ok (.aload_n 0, 1) := by decide +kernel
theorem dX4_startWeek_1 : decode cX4_startWeek 1 = .ok (.dup, 1) := by decide +kernel
theorem dX4_startWeek_2 : decode cX4_startWeek 2 = .ok (.getfield 54, 3) := by decide +kernel
theorem dX4_startWeek_5 : decode cX4_startWeek 5 = .ok (.aload_n 0, 1) := by decide +kernel
theorem dX4_startWeek_6 : decode cX4_startWeek 6 = .ok (.getfield 9, 3) := by decide +kernel
theorem dX4_startWeek_9 : decode cX4_startWeek 9 = .ok (.iload_n 1, 1) := by decide +kernel
theorem dX4_startWeek_10 : decode cX4_startWeek 10 = .ok (.invokevirtual 110, 3) := by decide +kernel
theorem dX4_startWeek_13 : decode cX4_startWeek 13 = .ok (.aload_n 0, 1) := by decide +kernel
theorem dX4_startWeek_14 : decode cX4_startWeek 14 = .ok (.getfield 51, 3) := by decide +kernel
theorem dX4_startWeek_17 : decode cX4_startWeek 17 = .ok (.iconst (-1), 1) := by decide +kernel
theorem dX4_startWeek_18 : decode cX4_startWeek 18 = .ok (.ixor, 1) := by decide +kernel
theorem dX4_startWeek_19 : decode cX4_startWeek 19 = .ok (.iand, 1) := by decide +kernel
theorem dX4_startWeek_20 : decode cX4_startWeek 20 = .ok (.ior, 1) := by decide +kernel
theorem dX4_startWeek_21 : decode cX4_startWeek 21 = .ok (.putfield 54, 3) := by decide +kernel
theorem dX4_startWeek_24 : decode cX4_startWeek 24 = .ok (.aload_n 0, 1) := by decide +kernel
theorem dX4_startWeek_25 : decode cX4_startWeek 25 = .ok (.getfield 69, 3) := by decide +kernel
theorem dX4_startWeek_28 : decode cX4_startWeek 28 = .ok (.ifCond .eq 52, 3) := by decide +kernel
theorem dX4_startWeek_31 : decode cX4_startWeek 31 = .ok (.iload_n 1, 1) := by decide +kernel
theorem dX4_startWeek_32 : decode cX4_startWeek 32 = .ok (.aload_n 0, 1) := by decide +kernel
theorem dX4_startWeek_33 : decode cX4_startWeek 33 = .ok (.getfield 9, 3) := by decide +kernel
theorem dX4_startWeek_36 : decode cX4_startWeek 36 = .ok (.getfield 114, 3) := by decide +kernel
theorem dX4_startWeek_39 : decode cX4_startWeek 39 = .ok (.if_icmp .ne 41, 3) := by decide +kernel
theorem dX4_startWeek_42 : decode cX4_startWeek 42 = .ok (.aload_n 0, 1) := by decide +kernel
theorem dX4_startWeek_43 : decode cX4_startWeek 43 = .ok (.getfield 50, 3) := by decide +kernel
theorem dX4_startWeek_46 : decode cX4_startWeek 46 = .ok (.aload_n 0, 1) := by decide +kernel
theorem dX4_startWeek_47 : decode cX4_startWeek 47 = .ok (.getfield 9, 3) := by decide +kernel
theorem dX4_startWeek_50 : decode cX4_startWeek 50 = .ok (.getfield 117, 3) := by decide +kernel
theorem dX4_startWeek_53 : decode cX4_startWeek 53 = .ok (.if_icmp .ge 11, 3) := by decide +kernel
theorem dX4_startWeek_56 : decode cX4_startWeek 56 = .ok (.aload_n 0, 1) := by decide +kernel
theorem dX4_startWeek_57 : decode cX4_startWeek 57 = .ok (.iload_n 1, 1) := by decide +kernel
theorem dX4_startWeek_58 : decode cX4_startWeek 58 = .ok (.putfield 60, 3) := by decide +kernel
theorem dX4_startWeek_61 : decode cX4_startWeek 61 = .ok (.goto 19, 3) := by decide +kernel
theorem dX4_startWeek_64 : decode cX4_startWeek 64 = .ok (.aload_n 0, 1) := by decide +kernel
theorem dX4_startWeek_65 : decode cX4_startWeek 65 = .ok (.dup, 1) := by decide +kernel
theorem dX4_startWeek_66 : decode cX4_startWeek 66 = .ok (.getfield 50, 3) := by decide +kernel
theorem dX4_startWeek_69 : decode cX4_startWeek 69 = .ok (.aload_n 0, 1) := by decide +kernel
theorem dX4_startWeek_70 : decode cX4_startWeek 70 = .ok (.getfield 9, 3) := by decide +kernel
theorem dX4_startWeek_73 : decode cX4_startWeek 73 = .ok (.getfield 117, 3) := by decide +kernel
theorem dX4_startWeek_76 : decode cX4_startWeek 76 = .ok (.isub, 1) := by decide +kernel
theorem dX4_startWeek_77 : decode cX4_startWeek 77 = .ok (.putfield 50, 3) := by decide +kernel
theorem dX4_startWeek_80 : decode cX4_startWeek 80 = .ok (.return_, 1) := by decide +kernel
theorem dX4_endWeek_0 : decode cX4_endWeek 0 = .ok (.aload_n 0, 1) := by decide +kernel
theorem dX4_endWeek_1 : decode cX4_endWeek 1 = .ok (.invokevirtual 120, 3) := by decide +kernel
theorem dX4_endWeek_4 : decode cX4_endWeek 4 = .ok (.istore_n 3, 1) := by decide +kernel
theorem dX4_endWeek_5 : decode cX4_endWeek 5 = .ok (.iload_n 2, 1) := by decide +kernel
theorem dX4_endWeek_6 : decode cX4_endWeek 6 = .ok (.ifCond .eq 29, 3) := by decide +kernel
theorem dX4_endWeek_9 : decode cX4_endWeek 9 = .ok (.aload_n 0, 1) := by decide +kernel
theorem dX4_endWeek_10 : decode cX4_endWeek 10 = .ok (.dup, 1) := by decide +kernel
theorem dX4_endWeek_11 : decode cX4_endWeek 11 = .ok (.getfield 50, 3) := by decide +kernel
theorem dX4_endWeek_14 : decode cX4_endWeek 14 = .ok (.aload_n 0, 1) := by decide +kernel
theorem dX4_endWeek_15 : decode cX4_endWeek 15 = .ok (.getfield 9, 3) := by decide +kernel
theorem dX4_endWeek_18 : decode cX4_endWeek 18 = .ok (.aload_n 0, 1) := by decide +kernel
theorem dX4_endWeek_19 : decode cX4_endWeek 19 = .ok (.getfield 15, 3) := by decide +kernel
theorem dX4_endWeek_22 : decode cX4_endWeek 22 = .ok (.iload_n 1, 1) := by decide +kernel
theorem dX4_endWeek_23 : decode cX4_endWeek 23 = .ok (.aload_n 0, 1) := by decide +kernel
theorem dX4_endWeek_24 : decode cX4_endWeek 24 = .ok (.getfield 51, 3) := by decide +kernel
theorem dX4_endWeek_27 : decode cX4_endWeek 27 = .ok (.iload_n 3, 1) := by decide +kernel
theorem dX4_endWeek_28 : decode cX4_endWeek 28 = .ok (.invokevirtual 124, 3) := by decide +kernel
theorem dX4_endWeek_31 : decode cX4_endWeek 31 = .ok (.iadd, 1) := by decide +kernel
theorem dX4_endWeek_32 : decode cX4_endWeek 32 = .ok (.putfield 50, 3) := by decide +kernel
theorem dX4_endWeek_35 : decode cX4_endWeek 35 = .ok (.aload_n 0, 1) := by decide +kernel
theorem dX4_endWeek_36 : decode cX4_endWeek 36 = .ok (.getfield 9, 3) := by decide +kernel
theorem dX4_endWeek_39 : decode cX4_endWeek 39 = .ok (.aload_n 0, 1) := by decide +kernel
theorem dX4_endWeek_40 : decode cX4_endWeek 40 = .ok (.getfield 15, 3) := by decide +kernel
theorem dX4_endWeek_43 : decode cX4_endWeek 43 = .ok (.iload_n 1, 1) := by decide +kernel
theorem dX4_endWeek_44 : decode cX4_endWeek 44 = .ok (.aload_n 0, 1) := by decide +kernel
theorem dX4_endWeek_45 : decode cX4_endWeek 45 = .ok (.getfield 51, 3) := by decide +kernel
theorem dX4_endWeek_48 : decode cX4_endWeek 48 = .ok (.iload_n 3, 1) := by decide +kernel
theorem dX4_endWeek_49 : decode cX4_endWeek 49 = .ok (.invokevirtual 128, 3) := by decide +kernel
theorem dX4_endWeek_52 : decode cX4_endWeek 52 = .ok (.istore 4, 2) := by decide +kernel
theorem dX4_endWeek_54 : decode cX4_endWeek 54 = .ok (.aload_n 0, 1) := by decide +kernel
theorem dX4_endWeek_55 : decode cX4_endWeek 55 = .ok (.getfield 50, 3) := by decide +kernel
theorem dX4_endWeek_58 : decode cX4_endWeek 58 = .ok (.iload 4, 2) := by decide +kernel
theorem dX4_endWeek_60 : decode cX4_endWeek 60 = .ok (.if_icmp .ge 9, 3) := by decide +kernel
theorem dX4_endWeek_63 : decode cX4_endWeek 63 = .ok (.aload_n 0, 1) := by decide +kernel
theorem dX4_endWeek_64 : decode cX4_endWeek 64 = .ok (.iload_n 1, 1) := by decide +kernel
theorem dX4_endWeek_65 : decode cX4_endWeek 65 = .ok (.putfield 60, 3) := by decide +kernel
theorem dX4_endWeek_68 : decode cX4_endWeek 68 = .ok (.return_, 1) := by decide +kernel
theorem dX4_endWeek_69 : decode cX4_endWeek 69 = .ok (.aload_n 0, 1) := by decide +kernel
theorem dX4_endWeek_70 : decode cX4_endWeek 70 = .ok (.dup, 1) := by decide +kernel
theorem dX4_endWeek_71 : decode cX4_endWeek 71 = .ok (.getfield 50, 3) := by decide +kernel
theorem dX4_endWeek_74 : decode cX4_endWeek 74 = .ok (.iload 4, 2) := by decide +kernel
theorem dX4_endWeek_76 : decode cX4_endWeek 76 = .ok (.isub, 1) := by decide +kernel
theorem dX4_endWeek_77 : decode cX4_endWeek 77 = .ok (.putfield 50, 3) := by decide +kernel
theorem dX4_endWeek_80 : decode cX4_endWeek 80 = .ok (.iload_n 1, 1) := by decide +kernel
theorem dX4_endWeek_81 : decode cX4_endWeek 81 = .ok (.bipush 60, 2) := by decide +kernel
theorem dX4_endWeek_83 : decode cX4_endWeek 83 = .ok (.if_icmp .ge 23, 3) := by decide +kernel
theorem dX4_endWeek_86 : decode cX4_endWeek 86 = .ok (.aload_n 0, 1) := by decide +kernel
theorem dX4_endWeek_87 : decode cX4_endWeek 87 = .ok (.getfield 25, 3) := by decide +kernel
theorem dX4_endWeek_90 : decode cX4_endWeek 90 = .ok (.iload_n 1, 1) := by decide +kernel
theorem dX4_endWeek_91 : decode cX4_endWeek 91 = .ok (.aload_n 0, 1) := by decide +kernel
theorem dX4_endWeek_92 : decode cX4_endWeek 92 = .ok (.getfield 50, 3) := by decide +kernel
theorem dX4_endWeek_95 : decode cX4_endWeek 95 = .ok (.iastore, 1) := by decide +kernel
theorem dX4_endWeek_96 : decode cX4_endWeek 96 = .ok (.aload_n 0, 1) := by decide +kernel
theorem dX4_endWeek_97 : decode cX4_endWeek 97 = .ok (.getfield 29, 3) := by decide +kernel
theorem dX4_endWeek_100 : decode cX4_endWeek 100 = .ok (.iload_n 1, 1) := by decide +kernel
theorem dX4_endWeek_101 : decode cX4_endWeek 101 = .ok (.aload_n 0, 1) := by decide +kernel
theorem dX4_endWeek_102 : decode cX4_endWeek 102 = .ok (.getfield 51, 3) := by decide +kernel
theorem dX4_endWeek_105 : decode cX4_endWeek 105 = .ok (.iastore, 1) := by decide +kernel
theorem dX4_endWeek_106 : decode cX4_endWeek 106 = .ok (.aload_n 0, 1) := by decide +kernel
theorem dX4_endWeek_107 : decode cX4_endWeek 107 = .ok (.iload_n 1, 1) := by decide +kernel
theorem dX4_endWeek_108 : decode cX4_endWeek 108 = .ok (.iconst 1, 1) := by decide +kernel
theorem dX4_endWeek_109 : decode cX4_endWeek 109 = .ok (.iadd, 1) := by decide +kernel
theorem dX4_endWeek_110 : decode cX4_endWeek 110 = .ok (.putfield 63, 3) := by decide +kernel
theorem dX4_endWeek_113 : decode cX4_endWeek 113 = .ok (.return_, 1) := by decide +kernel
theorem dX4_thingsIn_0 : decode cX4_thingsIn 0 = .ok (.aload_n 0, 1) := by decide +kernel
theorem dX4_thingsIn_1 : decode cX4_thingsIn 1 = .ok (.getfield 9, 3) := by decide +kernel
theorem dX4_thingsIn_4 : decode cX4_thingsIn 4 = .ok (.getfield 131, 3) := by decide +kernel
theorem dX4_thingsIn_7 : decode cX4_thingsIn 7 = .ok (.aload_n 0, 1) := by decide +kernel
theorem dX4_thingsIn_8 : decode cX4_thingsIn 8 = .ok (.getfield 51, 3) := by decide +kernel
theorem dX4_thingsIn_11 : decode cX4_thingsIn 11 = .ok (.iconst (-1), 1) := by decide +kernel
theorem dX4_thingsIn_12 : decode cX4_thingsIn 12 = .ok (.ixor, 1) := by decide +kernel
theorem dX4_thingsIn_13 : decode cX4_thingsIn 13 = .ok (.iand, 1) := by decide +kernel
theorem dX4_thingsIn_14 : decode cX4_thingsIn 14 = .ok (.aload_n 0, 1) := by decide +kernel
theorem dX4_thingsIn_15 : decode cX4_thingsIn 15 = .ok (.getfield 54, 3) := by decide +kernel
theorem dX4_thingsIn_18 : decode cX4_thingsIn 18 = .ok (.iconst (-1), 1) := by decide +kernel
theorem dX4_thingsIn_19 : decode cX4_thingsIn 19 = .ok (.ixor, 1) := by decide +kernel
theorem dX4_thingsIn_20 : decode cX4_thingsIn 20 = .ok (.iand, 1) := by decide +kernel
theorem dX4_thingsIn_21 : decode cX4_thingsIn 21 = .ok (.ireturn, 1) := by decide +kernel
theorem dX4_isIn_0 : decode cX4_isIn 0 = .ok (.iload_n 1, 1) := by decide +kernel
theorem dX4_isIn_1 : decode cX4_isIn 1 = .ok (.ifCond .lt 24, 3) := by decide +kernel
theorem dX4_isIn_4 : decode cX4_isIn 4 = .ok (.iload_n 1, 1) := by decide +kernel
theorem dX4_isIn_5 : decode cX4_isIn 5 = .ok (.bipush 8, 2) := by decide +kernel
theorem dX4_isIn_7 : decode cX4_isIn 7 = .ok (.if_icmp .ge 18, 3) := by decide +kernel
theorem dX4_isIn_10 : decode cX4_isIn 10 = .ok (.aload_n 0, 1) := by decide +kernel
theorem dX4_isIn_11 : decode cX4_isIn 11 = .ok (.invokevirtual 120, 3) := by decide +kernel
theorem dX4_isIn_14 : decode cX4_isIn 14 = .ok (.iload_n 1, 1) := by decide +kernel
theorem dX4_isIn_15 : decode cX4_isIn 15 = .ok (.ishr, 1) := by decide +kernel
theorem dX4_isIn_16 : decode cX4_isIn 16 = .ok (.iconst 1, 1) := by decide +kernel
theorem dX4_isIn_17 : decode cX4_isIn 17 = .ok (.iand, 1) := by decide +kernel
theorem dX4_isIn_18 : decode cX4_isIn 18 = .ok (.ifCond .eq 7, 3) := by decide +kernel
theorem dX4_isIn_21 : decode cX4_isIn 21 = .ok (.iconst 1, 1) := by decide +kernel
theorem dX4_isIn_22 : decode cX4_isIn 22 = .ok (.goto 4, 3) := by decide +kernel
theorem dX4_isIn_25 : decode cX4_isIn 25 = .ok (.iconst 0, 1) := by decide +kernel
theorem dX4_isIn_26 : decode cX4_isIn 26 = .ok (.ireturn, 1) := by decide +kernel
theorem dX4_owedNow_0 : decode cX4_owedNow 0 = .ok (.aload_n 0, 1) := by decide +kernel
theorem dX4_owedNow_1 : decode cX4_owedNow 1 = .ok (.getfield 35, 3) := by decide +kernel
theorem dX4_owedNow_4 : decode cX4_owedNow 4 = .ok (.iload_n 1, 1) := by decide +kernel
theorem dX4_owedNow_5 : decode cX4_owedNow 5 = .ok (.iaload, 1) := by decide +kernel
theorem dX4_owedNow_6 : decode cX4_owedNow 6 = .ok (.aload_n 0, 1) := by decide +kernel
theorem dX4_owedNow_7 : decode cX4_owedNow 7 = .ok (.getfield 38, 3) := by decide +kernel
theorem dX4_owedNow_10 : decode cX4_owedNow 10 = .ok (.iload_n 1, 1) := by decide +kernel
theorem dX4_owedNow_11 : decode cX4_owedNow 11 = .ok (.iaload, 1) := by decide +kernel
theorem dX4_owedNow_12 : decode cX4_owedNow 12 = .ok (.iload_n 2, 1) := by decide +kernel
theorem dX4_owedNow_13 : decode cX4_owedNow 13 = .ok (.aload_n 0, 1) := by decide +kernel
theorem dX4_owedNow_14 : decode cX4_owedNow 14 = .ok (.getfield 41, 3) := by decide +kernel
theorem dX4_owedNow_17 : decode cX4_owedNow 17 = .ok (.iload_n 1, 1) := by decide +kernel
theorem dX4_owedNow_18 : decode cX4_owedNow 18 = .ok (.iaload, 1) := by decide +kernel
theorem dX4_owedNow_19 : decode cX4_owedNow 19 = .ok (.isub, 1) := by decide +kernel
theorem dX4_owedNow_20 : decode cX4_owedNow 20 = .ok (.imul, 1) := by decide +kernel
theorem dX4_owedNow_21 : decode cX4_owedNow 21 = .ok (.iadd, 1) := by decide +kernel
theorem dX4_owedNow_22 : decode cX4_owedNow 22 = .ok (.ireturn, 1) := by decide +kernel
theorem dX4_doActs_0 : decode cX4_doActs 0 = .ok (.iload_n 2, 1) := by decide +kernel
theorem dX4_doActs_1 : decode cX4_doActs 1 = .ok (.istore 4, 2) := by decide +kernel
theorem dX4_doActs_3 : decode cX4_doActs 3 = .ok (.iload 4, 2) := by decide +kernel
theorem dX4_doActs_5 : decode cX4_doActs 5 = .ok (.ifCond .lt 70, 3) := by decide +kernel
theorem dX4_doActs_8 : decode cX4_doActs 8 = .ok (.iload 4, 2) := by decide +kernel
theorem dX4_doActs_10 : decode cX4_doActs 10 = .ok (.aload_n 1, 1) := by decide +kernel
theorem dX4_doActs_11 : decode cX4_doActs 11 = .ok (.getfield 97, 3) := by decide +kernel
theorem dX4_doActs_14 : decode cX4_doActs 14 = .ok (.if_icmp .ge 61, 3) := by decide +kernel
theorem dX4_doActs_17 : decode cX4_doActs 17 = .ok (.iload 4, 2) := by decide +kernel
theorem dX4_doActs_19 : decode cX4_doActs 19 = .ok (.bipush 60, 2) := by decide +kernel
theorem dX4_doActs_21 : decode cX4_doActs 21 = .ok (.if_icmp .ge 54, 3) := by decide +kernel
theorem dX4_doActs_24 : decode cX4_doActs 24 = .ok (.aload_n 1, 1) := by decide +kernel
theorem dX4_doActs_25 : decode cX4_doActs 25 = .ok (.getfield 134, 3) := by decide +kernel
theorem dX4_doActs_28 : decode cX4_doActs 28 = .ok (.iload 4, 2) := by decide +kernel
theorem dX4_doActs_30 : decode cX4_doActs 30 = .ok (.iaload, 1) := by decide +kernel
theorem dX4_doActs_31 : decode cX4_doActs 31 = .ok (.iload_n 3, 1) := by decide +kernel
theorem dX4_doActs_32 : decode cX4_doActs 32 = .ok (.if_icmp .eq 6, 3) := by decide +kernel
theorem dX4_doActs_35 : decode cX4_doActs 35 = .ok (.iload 4, 2) := by decide +kernel
theorem dX4_doActs_37 : decode cX4_doActs 37 = .ok (.ireturn, 1) := by decide +kernel
theorem dX4_doActs_38 : decode cX4_doActs 38 = .ok (.aload_n 0, 1) := by decide +kernel
theorem dX4_doActs_39 : decode cX4_doActs 39 = .ok (.aload_n 1, 1) := by decide +kernel
theorem dX4_doActs_40 : decode cX4_doActs 40 = .ok (.getfield 136, 3) := by decide +kernel
theorem dX4_doActs_43 : decode cX4_doActs 43 = .ok (.iload 4, 2) := by decide +kernel
theorem dX4_doActs_45 : decode cX4_doActs 45 = .ok (.iaload, 1) := by decide +kernel
theorem dX4_doActs_46 : decode cX4_doActs 46 = .ok (.aload_n 1, 1) := by decide +kernel
theorem dX4_doActs_47 : decode cX4_doActs 47 = .ok (.getfield 139, 3) := by decide +kernel
theorem dX4_doActs_50 : decode cX4_doActs 50 = .ok (.iload 4, 2) := by decide +kernel
theorem dX4_doActs_52 : decode cX4_doActs 52 = .ok (.iaload, 1) := by decide +kernel
theorem dX4_doActs_53 : decode cX4_doActs 53 = .ok (.iload_n 3, 1) := by decide +kernel
theorem dX4_doActs_54 : decode cX4_doActs 54 = .ok (.invokevirtual 141, 3) := by decide +kernel
theorem dX4_doActs_57 : decode cX4_doActs 57 = .ok (.ifCond .ne 12, 3) := by decide +kernel
theorem dX4_doActs_60 : decode cX4_doActs 60 = .ok (.aload_n 0, 1) := by decide +kernel
theorem dX4_doActs_61 : decode cX4_doActs 61 = .ok (.iload 4, 2) := by decide +kernel
theorem dX4_doActs_63 : decode cX4_doActs 63 = .ok (.putfield 57, 3) := by decide +kernel
theorem dX4_doActs_66 : decode cX4_doActs 66 = .ok (.iload 4, 2) := by decide +kernel
theorem dX4_doActs_68 : decode cX4_doActs 68 = .ok (.ireturn, 1) := by decide +kernel
theorem dX4_doActs_69 : decode cX4_doActs 69 = .ok (.iinc 4 1, 3) := by decide +kernel
theorem dX4_doActs_72 : decode cX4_doActs 72 = .ok (.goto (-69), 3) := by decide +kernel
theorem dX4_doActs_75 : decode cX4_doActs 75 = .ok (.aload_n 1, 1) := by decide +kernel
theorem dX4_doActs_76 : decode cX4_doActs 76 = .ok (.getfield 97, 3) := by decide +kernel
theorem dX4_doActs_79 : decode cX4_doActs 79 = .ok (.ireturn, 1) := by decide +kernel
theorem dX4_doAct_0 : decode cX4_doAct 0 = .ok (.iload_n 1, 1) := by decide +kernel
set_option maxRecDepth 20000 in
theorem dX4_doAct_1 : decode cX4_doAct 1 = .ok (.tableswitch 68 0 4 #[35, 42, 49, 55, 62], 35) := by decide +kernel
theorem dX4_doAct_36 : decode cX4_doAct 36 = .ok (.aload_n 0, 1) := by decide +kernel
theorem dX4_doAct_37 : decode cX4_doAct 37 = .ok (.iload_n 2, 1) := by decide +kernel
theorem dX4_doAct_38 : decode cX4_doAct 38 = .ok (.iload_n 3, 1) := by decide +kernel
theorem dX4_doAct_39 : decode cX4_doAct 39 = .ok (.invokevirtual 106, 3) := by decide +kernel
theorem dX4_doAct_42 : decode cX4_doAct 42 = .ok (.ireturn, 1) := by decide +kernel
theorem dX4_doAct_43 : decode cX4_doAct 43 = .ok (.aload_n 0, 1) := by decide +kernel
theorem dX4_doAct_44 : decode cX4_doAct 44 = .ok (.iload_n 2, 1) := by decide +kernel
theorem dX4_doAct_45 : decode cX4_doAct 45 = .ok (.iload_n 3, 1) := by decide +kernel
theorem dX4_doAct_46 : decode cX4_doAct 46 = .ok (.invokevirtual 145, 3) := by decide +kernel
theorem dX4_doAct_49 : decode cX4_doAct 49 = .ok (.ireturn, 1) := by decide +kernel
theorem dX4_doAct_50 : decode cX4_doAct 50 = .ok (.aload_n 0, 1) := by decide +kernel
theorem dX4_doAct_51 : decode cX4_doAct 51 = .ok (.iload_n 2, 1) := by decide +kernel
theorem dX4_doAct_52 : decode cX4_doAct 52 = .ok (.invokevirtual 148, 3) := by decide +kernel
theorem dX4_doAct_55 : decode cX4_doAct 55 = .ok (.ireturn, 1) := by decide +kernel
theorem dX4_doAct_56 : decode cX4_doAct 56 = .ok (.aload_n 0, 1) := by decide +kernel
theorem dX4_doAct_57 : decode cX4_doAct 57 = .ok (.iload_n 2, 1) := by decide +kernel
theorem dX4_doAct_58 : decode cX4_doAct 58 = .ok (.iload_n 3, 1) := by decide +kernel
theorem dX4_doAct_59 : decode cX4_doAct 59 = .ok (.invokevirtual 152, 3) := by decide +kernel
theorem dX4_doAct_62 : decode cX4_doAct 62 = .ok (.ireturn, 1) := by decide +kernel
theorem dX4_doAct_63 : decode cX4_doAct 63 = .ok (.aload_n 0, 1) := by decide +kernel
theorem dX4_doAct_64 : decode cX4_doAct 64 = .ok (.iload_n 3, 1) := by decide +kernel
theorem dX4_doAct_65 : decode cX4_doAct 65 = .ok (.invokevirtual 155, 3) := by decide +kernel
theorem dX4_doAct_68 : decode cX4_doAct 68 = .ok (.ireturn, 1) := by decide +kernel
theorem dX4_doAct_69 : decode cX4_doAct 69 = .ok (.iconst 0, 1) := by decide +kernel
theorem dX4_doAct_70 : decode cX4_doAct 70 = .ok (.ireturn, 1) := by decide +kernel
theorem dX4_fetchOne_0 : decode cX4_fetchOne 0 = .ok (.aload_n 0, 1) := by decide +kernel
theorem dX4_fetchOne_1 : decode cX4_fetchOne 1 = .ok (.iload_n 1, 1) := by decide +kernel
theorem dX4_fetchOne_2 : decode cX4_fetchOne 2 = .ok (.invokevirtual 158, 3) := by decide +kernel
theorem dX4_fetchOne_5 : decode cX4_fetchOne 5 = .ok (.ifCond .eq 16, 3) := by decide +kernel
theorem dX4_fetchOne_8 : decode cX4_fetchOne 8 = .ok (.aload_n 0, 1) := by decide +kernel
theorem dX4_fetchOne_9 : decode cX4_fetchOne 9 = .ok (.getfield 50, 3) := by decide +kernel
theorem dX4_fetchOne_12 : decode cX4_fetchOne 12 = .ok (.aload_n 0, 1) := by decide +kernel
theorem dX4_fetchOne_13 : decode cX4_fetchOne 13 = .ok (.iload_n 1, 1) := by decide +kernel
theorem dX4_fetchOne_14 : decode cX4_fetchOne 14 = .ok (.iload_n 2, 1) := by decide +kernel
theorem dX4_fetchOne_15 : decode cX4_fetchOne 15 = .ok (.invokevirtual 161, 3) := by decide +kernel
theorem dX4_fetchOne_18 : decode cX4_fetchOne 18 = .ok (.if_icmp .ge 5, 3) := by decide +kernel
theorem dX4_fetchOne_21 : decode cX4_fetchOne 21 = .ok (.iconst 0, 1) := by decide +kernel
theorem dX4_fetchOne_22 : decode cX4_fetchOne 22 = .ok (.ireturn, 1) := by decide +kernel
theorem dX4_fetchOne_23 : decode cX4_fetchOne 23 = .ok (.aload_n 0, 1) := by decide +kernel
theorem dX4_fetchOne_24 : decode cX4_fetchOne 24 = .ok (.dup, 1) := by decide +kernel
theorem dX4_fetchOne_25 : decode cX4_fetchOne 25 = .ok (.getfield 50, 3) := by decide +kernel
theorem dX4_fetchOne_28 : decode cX4_fetchOne 28 = .ok (.aload_n 0, 1) := by decide +kernel
theorem dX4_fetchOne_29 : decode cX4_fetchOne 29 = .ok (.iload_n 1, 1) := by decide +kernel
theorem dX4_fetchOne_30 : decode cX4_fetchOne 30 = .ok (.iload_n 2, 1) := by decide +kernel
theorem dX4_fetchOne_31 : decode cX4_fetchOne 31 = .ok (.invokevirtual 161, 3) := by decide +kernel
theorem dX4_fetchOne_34 : decode cX4_fetchOne 34 = .ok (.isub, 1) := by decide +kernel
theorem dX4_fetchOne_35 : decode cX4_fetchOne 35 = .ok (.putfield 50, 3) := by decide +kernel
theorem dX4_fetchOne_38 : decode cX4_fetchOne 38 = .ok (.aload_n 0, 1) := by decide +kernel
theorem dX4_fetchOne_39 : decode cX4_fetchOne 39 = .ok (.dup, 1) := by decide +kernel
theorem dX4_fetchOne_40 : decode cX4_fetchOne 40 = .ok (.getfield 51, 3) := by decide +kernel
theorem dX4_fetchOne_43 : decode cX4_fetchOne 43 = .ok (.iconst 1, 1) := by decide +kernel
theorem dX4_fetchOne_44 : decode cX4_fetchOne 44 = .ok (.iload_n 1, 1) := by decide +kernel
theorem dX4_fetchOne_45 : decode cX4_fetchOne 45 = .ok (.ishl, 1) := by decide +kernel
theorem dX4_fetchOne_46 : decode cX4_fetchOne 46 = .ok (.ior, 1) := by decide +kernel
theorem dX4_fetchOne_47 : decode cX4_fetchOne 47 = .ok (.putfield 51, 3) := by decide +kernel
theorem dX4_fetchOne_50 : decode cX4_fetchOne 50 = .ok (.aload_n 0, 1) := by decide +kernel
theorem dX4_fetchOne_51 : decode cX4_fetchOne 51 = .ok (.getfield 32, 3) := by decide +kernel
theorem dX4_fetchOne_54 : decode cX4_fetchOne 54 = .ok (.iload_n 1, 1) := by decide +kernel
theorem dX4_fetchOne_55 : decode cX4_fetchOne 55 = .ok (.iload_n 2, 1) := by decide +kernel
theorem dX4_fetchOne_56 : decode cX4_fetchOne 56 = .ok (.iastore, 1) := by decide +kernel
theorem dX4_fetchOne_57 : decode cX4_fetchOne 57 = .ok (.iconst 1, 1) := by decide +kernel
theorem dX4_fetchOne_58 : decode cX4_fetchOne 58 = .ok (.ireturn, 1) := by decide +kernel
theorem dX4_putOne_0 : decode cX4_putOne 0 = .ok (.iload_n 1, 1) := by decide +kernel
theorem dX4_putOne_1 : decode cX4_putOne 1 = .ok (.ifCond .lt 20, 3) := by decide +kernel
theorem dX4_putOne_4 : decode cX4_putOne 4 = .ok (.iload_n 1, 1) := by decide +kernel
theorem dX4_putOne_5 : decode cX4_putOne 5 = .ok (.bipush 8, 2) := by decide +kernel
theorem dX4_putOne_7 : decode cX4_putOne 7 = .ok (.if_icmp .ge 14, 3) := by decide +kernel
theorem dX4_putOne_10 : decode cX4_putOne 10 = .ok (.aload_n 0, 1) := by decide +kernel
theorem dX4_putOne_11 : decode cX4_putOne 11 = .ok (.getfield 51, 3) := by decide +kernel
theorem dX4_putOne_14 : decode cX4_putOne 14 = .ok (.iload_n 1, 1) := by decide +kernel
theorem dX4_putOne_15 : decode cX4_putOne 15 = .ok (.ishr, 1) := by decide +kernel
theorem dX4_putOne_16 : decode cX4_putOne 16 = .ok (.iconst 1, 1) := by decide +kernel
theorem dX4_putOne_17 : decode cX4_putOne 17 = .ok (.iand, 1) := by decide +kernel
theorem dX4_putOne_18 : decode cX4_putOne 18 = .ok (.ifCond .ne 5, 3) := by decide +kernel
theorem dX4_putOne_21 : decode cX4_putOne 21 = .ok (.iconst 0, 1) := by decide +kernel
theorem dX4_putOne_22 : decode cX4_putOne 22 = .ok (.ireturn, 1) := by decide +kernel
theorem dX4_putOne_23 : decode cX4_putOne 23 = .ok (.aload_n 0, 1) := by decide +kernel
theorem dX4_putOne_24 : decode cX4_putOne 24 = .ok (.dup, 1) := by decide +kernel
theorem dX4_putOne_25 : decode cX4_putOne 25 = .ok (.getfield 51, 3) := by decide +kernel
theorem dX4_putOne_28 : decode cX4_putOne 28 = .ok (.iconst 1, 1) := by decide +kernel
theorem dX4_putOne_29 : decode cX4_putOne 29 = .ok (.iload_n 1, 1) := by decide +kernel
theorem dX4_putOne_30 : decode cX4_putOne 30 = .ok (.ishl, 1) := by decide +kernel
theorem dX4_putOne_31 : decode cX4_putOne 31 = .ok (.iconst (-1), 1) := by decide +kernel
theorem dX4_putOne_32 : decode cX4_putOne 32 = .ok (.ixor, 1) := by decide +kernel
theorem dX4_putOne_33 : decode cX4_putOne 33 = .ok (.iand, 1) := by decide +kernel
theorem dX4_putOne_34 : decode cX4_putOne 34 = .ok (.putfield 51, 3) := by decide +kernel
theorem dX4_putOne_37 : decode cX4_putOne 37 = .ok (.aload_n 0, 1) := by decide +kernel
theorem dX4_putOne_38 : decode cX4_putOne 38 = .ok (.dup, 1) := by decide +kernel
theorem dX4_putOne_39 : decode cX4_putOne 39 = .ok (.getfield 66, 3) := by decide +kernel
theorem dX4_putOne_42 : decode cX4_putOne 42 = .ok (.iconst 1, 1) := by decide +kernel
theorem dX4_putOne_43 : decode cX4_putOne 43 = .ok (.iload_n 1, 1) := by decide +kernel
theorem dX4_putOne_44 : decode cX4_putOne 44 = .ok (.ishl, 1) := by decide +kernel
theorem dX4_putOne_45 : decode cX4_putOne 45 = .ok (.iconst (-1), 1) := by decide +kernel
theorem dX4_putOne_46 : decode cX4_putOne 46 = .ok (.ixor, 1) := by decide +kernel
theorem dX4_putOne_47 : decode cX4_putOne 47 = .ok (.iand, 1) := by decide +kernel
theorem dX4_putOne_48 : decode cX4_putOne 48 = .ok (.putfield 66, 3) := by decide +kernel
theorem dX4_putOne_51 : decode cX4_putOne 51 = .ok (.aload_n 0, 1) := by decide +kernel
theorem dX4_putOne_52 : decode cX4_putOne 52 = .ok (.dup, 1) := by decide +kernel
theorem dX4_putOne_53 : decode cX4_putOne 53 = .ok (.getfield 50, 3) := by decide +kernel
theorem dX4_putOne_56 : decode cX4_putOne 56 = .ok (.aload_n 0, 1) := by decide +kernel
theorem dX4_putOne_57 : decode cX4_putOne 57 = .ok (.getfield 9, 3) := by decide +kernel
theorem dX4_putOne_60 : decode cX4_putOne 60 = .ok (.getfield 165, 3) := by decide +kernel
theorem dX4_putOne_63 : decode cX4_putOne 63 = .ok (.iload_n 1, 1) := by decide +kernel
theorem dX4_putOne_64 : decode cX4_putOne 64 = .ok (.iaload, 1) := by decide +kernel
theorem dX4_putOne_65 : decode cX4_putOne 65 = .ok (.iadd, 1) := by decide +kernel
theorem dX4_putOne_66 : decode cX4_putOne 66 = .ok (.putfield 50, 3) := by decide +kernel
theorem dX4_putOne_69 : decode cX4_putOne 69 = .ok (.aload_n 0, 1) := by decide +kernel
theorem dX4_putOne_70 : decode cX4_putOne 70 = .ok (.getfield 35, 3) := by decide +kernel
theorem dX4_putOne_73 : decode cX4_putOne 73 = .ok (.iload_n 1, 1) := by decide +kernel
theorem dX4_putOne_74 : decode cX4_putOne 74 = .ok (.aload_n 0, 1) := by decide +kernel
theorem dX4_putOne_75 : decode cX4_putOne 75 = .ok (.getfield 9, 3) := by decide +kernel
theorem dX4_putOne_78 : decode cX4_putOne 78 = .ok (.getfield 165, 3) := by decide +kernel
theorem dX4_putOne_81 : decode cX4_putOne 81 = .ok (.iload_n 1, 1) := by decide +kernel
theorem dX4_putOne_82 : decode cX4_putOne 82 = .ok (.iaload, 1) := by decide +kernel
theorem dX4_putOne_83 : decode cX4_putOne 83 = .ok (.iastore, 1) := by decide +kernel
theorem dX4_putOne_84 : decode cX4_putOne 84 = .ok (.aload_n 0, 1) := by decide +kernel
theorem dX4_putOne_85 : decode cX4_putOne 85 = .ok (.getfield 38, 3) := by decide +kernel
theorem dX4_putOne_88 : decode cX4_putOne 88 = .ok (.iload_n 1, 1) := by decide +kernel
theorem dX4_putOne_89 : decode cX4_putOne 89 = .ok (.aload_n 0, 1) := by decide +kernel
theorem dX4_putOne_90 : decode cX4_putOne 90 = .ok (.getfield 9, 3) := by decide +kernel
theorem dX4_putOne_93 : decode cX4_putOne 93 = .ok (.getfield 74, 3) := by decide +kernel
theorem dX4_putOne_96 : decode cX4_putOne 96 = .ok (.iload_n 1, 1) := by decide +kernel
theorem dX4_putOne_97 : decode cX4_putOne 97 = .ok (.iaload, 1) := by decide +kernel
theorem dX4_putOne_98 : decode cX4_putOne 98 = .ok (.iastore, 1) := by decide +kernel
theorem dX4_putOne_99 : decode cX4_putOne 99 = .ok (.aload_n 0, 1) := by decide +kernel
theorem dX4_putOne_100 : decode cX4_putOne 100 = .ok (.getfield 41, 3) := by decide +kernel
theorem dX4_putOne_103 : decode cX4_putOne 103 = .ok (.iload_n 1, 1) := by decide +kernel
theorem dX4_putOne_104 : decode cX4_putOne 104 = .ok (.iload_n 2, 1) := by decide +kernel
theorem dX4_putOne_105 : decode cX4_putOne 105 = .ok (.iastore, 1) := by decide +kernel
theorem dX4_putOne_106 : decode cX4_putOne 106 = .ok (.iconst 1, 1) := by decide +kernel
theorem dX4_putOne_107 : decode cX4_putOne 107 = .ok (.ireturn, 1) := by decide +kernel
theorem dX4_sellOne_0 : decode cX4_sellOne 0 = .ok (.aload_n 0, 1) := by decide +kernel
theorem dX4_sellOne_1 : decode cX4_sellOne 1 = .ok (.iload_n 1, 1) := by decide +kernel
theorem dX4_sellOne_2 : decode cX4_sellOne 2 = .ok (.invokevirtual 158, 3) := by decide +kernel
theorem dX4_sellOne_5 : decode cX4_sellOne 5 = .ok (.ifCond .ne 5, 3) := by decide +kernel
theorem dX4_sellOne_8 : decode cX4_sellOne 8 = .ok (.iconst 0, 1) := by decide +kernel
theorem dX4_sellOne_9 : decode cX4_sellOne 9 = .ok (.ireturn, 1) := by decide +kernel
theorem dX4_sellOne_10 : decode cX4_sellOne 10 = .ok (.aload_n 0, 1) := by decide +kernel
theorem dX4_sellOne_11 : decode cX4_sellOne 11 = .ok (.dup, 1) := by decide +kernel
theorem dX4_sellOne_12 : decode cX4_sellOne 12 = .ok (.getfield 54, 3) := by decide +kernel
theorem dX4_sellOne_15 : decode cX4_sellOne 15 = .ok (.iconst 1, 1) := by decide +kernel
theorem dX4_sellOne_16 : decode cX4_sellOne 16 = .ok (.iload_n 1, 1) := by decide +kernel
theorem dX4_sellOne_17 : decode cX4_sellOne 17 = .ok (.ishl, 1) := by decide +kernel
theorem dX4_sellOne_18 : decode cX4_sellOne 18 = .ok (.ior, 1) := by decide +kernel
theorem dX4_sellOne_19 : decode cX4_sellOne 19 = .ok (.putfield 54, 3) := by decide +kernel
theorem dX4_sellOne_22 : decode cX4_sellOne 22 = .ok (.aload_n 0, 1) := by decide +kernel
theorem dX4_sellOne_23 : decode cX4_sellOne 23 = .ok (.dup, 1) := by decide +kernel
theorem dX4_sellOne_24 : decode cX4_sellOne 24 = .ok (.getfield 50, 3) := by decide +kernel
theorem dX4_sellOne_27 : decode cX4_sellOne 27 = .ok (.aload_n 0, 1) := by decide +kernel
theorem dX4_sellOne_28 : decode cX4_sellOne 28 = .ok (.getfield 9, 3) := by decide +kernel
theorem dX4_sellOne_31 : decode cX4_sellOne 31 = .ok (.getfield 168, 3) := by decide +kernel
theorem dX4_sellOne_34 : decode cX4_sellOne 34 = .ok (.iload_n 1, 1) := by decide +kernel
theorem dX4_sellOne_35 : decode cX4_sellOne 35 = .ok (.iaload, 1) := by decide +kernel
theorem dX4_sellOne_36 : decode cX4_sellOne 36 = .ok (.iadd, 1) := by decide +kernel
theorem dX4_sellOne_37 : decode cX4_sellOne 37 = .ok (.putfield 50, 3) := by decide +kernel
theorem dX4_sellOne_40 : decode cX4_sellOne 40 = .ok (.iconst 1, 1) := by decide +kernel
theorem dX4_sellOne_41 : decode cX4_sellOne 41 = .ok (.ireturn, 1) := by decide +kernel
theorem dX4_halveOne_0 : decode cX4_halveOne 0 = .ok (.aload_n 0, 1) := by decide +kernel
theorem dX4_halveOne_1 : decode cX4_halveOne 1 = .ok (.iload_n 1, 1) := by decide +kernel
theorem dX4_halveOne_2 : decode cX4_halveOne 2 = .ok (.invokevirtual 158, 3) := by decide +kernel
theorem dX4_halveOne_5 : decode cX4_halveOne 5 = .ok (.ifCond .eq 14, 3) := by decide +kernel
theorem dX4_halveOne_8 : decode cX4_halveOne 8 = .ok (.aload_n 0, 1) := by decide +kernel
theorem dX4_halveOne_9 : decode cX4_halveOne 9 = .ok (.getfield 66, 3) := by decide +kernel
theorem dX4_halveOne_12 : decode cX4_halveOne 12 = .ok (.iload_n 1, 1) := by decide +kernel
theorem dX4_halveOne_13 : decode cX4_halveOne 13 = .ok (.ishr, 1) := by decide +kernel
theorem dX4_halveOne_14 : decode cX4_halveOne 14 = .ok (.iconst 1, 1) := by decide +kernel
theorem dX4_halveOne_15 : decode cX4_halveOne 15 = .ok (.iand, 1) := by decide +kernel
theorem dX4_halveOne_16 : decode cX4_halveOne 16 = .ok (.ifCond .eq 5, 3) := by decide +kernel
theorem dX4_halveOne_19 : decode cX4_halveOne 19 = .ok (.iconst 0, 1) := by decide +kernel
theorem dX4_halveOne_20 : decode cX4_halveOne 20 = .ok (.ireturn, 1) := by decide +kernel
theorem dX4_halveOne_21 : decode cX4_halveOne 21 = .ok (.aload_n 0, 1) := by decide +kernel
theorem dX4_halveOne_22 : decode cX4_halveOne 22 = .ok (.iload_n 1, 1) := by decide +kernel
theorem dX4_halveOne_23 : decode cX4_halveOne 23 = .ok (.iload_n 2, 1) := by decide +kernel
theorem dX4_halveOne_24 : decode cX4_halveOne 24 = .ok (.invokevirtual 161, 3) := by decide +kernel
theorem dX4_halveOne_27 : decode cX4_halveOne 27 = .ok (.istore_n 3, 1) := by decide +kernel
theorem dX4_halveOne_28 : decode cX4_halveOne 28 = .ok (.iload_n 3, 1) := by decide +kernel
theorem dX4_halveOne_29 : decode cX4_halveOne 29 = .ok (.iconst 1, 1) := by decide +kernel
theorem dX4_halveOne_30 : decode cX4_halveOne 30 = .ok (.iadd, 1) := by decide +kernel
theorem dX4_halveOne_31 : decode cX4_halveOne 31 = .ok (.iconst 2, 1) := by decide +kernel
theorem dX4_halveOne_32 : decode cX4_halveOne 32 = .ok (.idiv, 1) := by decide +kernel
theorem dX4_halveOne_33 : decode cX4_halveOne 33 = .ok (.istore 4, 2) := by decide +kernel
theorem dX4_halveOne_35 : decode cX4_halveOne 35 = .ok (.aload_n 0, 1) := by decide +kernel
theorem dX4_halveOne_36 : decode cX4_halveOne 36 = .ok (.getfield 50, 3) := by decide +kernel
theorem dX4_halveOne_39 : decode cX4_halveOne 39 = .ok (.iload 4, 2) := by decide +kernel
theorem dX4_halveOne_41 : decode cX4_halveOne 41 = .ok (.if_icmp .ge 5, 3) := by decide +kernel
theorem dX4_halveOne_44 : decode cX4_halveOne 44 = .ok (.iconst 0, 1) := by decide +kernel
theorem dX4_halveOne_45 : decode cX4_halveOne 45 = .ok (.ireturn, 1) := by decide +kernel
theorem dX4_halveOne_46 : decode cX4_halveOne 46 = .ok (.aload_n 0, 1) := by decide +kernel
theorem dX4_halveOne_47 : decode cX4_halveOne 47 = .ok (.dup, 1) := by decide +kernel
theorem dX4_halveOne_48 : decode cX4_halveOne 48 = .ok (.getfield 50, 3) := by decide +kernel
theorem dX4_halveOne_51 : decode cX4_halveOne 51 = .ok (.iload 4, 2) := by decide +kernel
theorem dX4_halveOne_53 : decode cX4_halveOne 53 = .ok (.isub, 1) := by decide +kernel
theorem dX4_halveOne_54 : decode cX4_halveOne 54 = .ok (.putfield 50, 3) := by decide +kernel
theorem dX4_halveOne_57 : decode cX4_halveOne 57 = .ok (.aload_n 0, 1) := by decide +kernel
theorem dX4_halveOne_58 : decode cX4_halveOne 58 = .ok (.dup, 1) := by decide +kernel
theorem dX4_halveOne_59 : decode cX4_halveOne 59 = .ok (.getfield 66, 3) := by decide +kernel
theorem dX4_halveOne_62 : decode cX4_halveOne 62 = .ok (.iconst 1, 1) := by decide +kernel
theorem dX4_halveOne_63 : decode cX4_halveOne 63 = .ok (.iload_n 1, 1) := by decide +kernel
theorem dX4_halveOne_64 : decode cX4_halveOne 64 = .ok (.ishl, 1) := by decide +kernel
theorem dX4_halveOne_65 : decode cX4_halveOne 65 = .ok (.ior, 1) := by decide +kernel
theorem dX4_halveOne_66 : decode cX4_halveOne 66 = .ok (.putfield 66, 3) := by decide +kernel
theorem dX4_halveOne_69 : decode cX4_halveOne 69 = .ok (.aload_n 0, 1) := by decide +kernel
theorem dX4_halveOne_70 : decode cX4_halveOne 70 = .ok (.getfield 35, 3) := by decide +kernel
theorem dX4_halveOne_73 : decode cX4_halveOne 73 = .ok (.iload_n 1, 1) := by decide +kernel
theorem dX4_halveOne_74 : decode cX4_halveOne 74 = .ok (.iload_n 3, 1) := by decide +kernel
theorem dX4_halveOne_75 : decode cX4_halveOne 75 = .ok (.iload 4, 2) := by decide +kernel
theorem dX4_halveOne_77 : decode cX4_halveOne 77 = .ok (.isub, 1) := by decide +kernel
theorem dX4_halveOne_78 : decode cX4_halveOne 78 = .ok (.iastore, 1) := by decide +kernel
theorem dX4_halveOne_79 : decode cX4_halveOne 79 = .ok (.aload_n 0, 1) := by decide +kernel
theorem dX4_halveOne_80 : decode cX4_halveOne 80 = .ok (.getfield 38, 3) := by decide +kernel
theorem dX4_halveOne_83 : decode cX4_halveOne 83 = .ok (.iload_n 1, 1) := by decide +kernel
theorem dX4_halveOne_84 : decode cX4_halveOne 84 = .ok (.aload_n 0, 1) := by decide +kernel
theorem dX4_halveOne_85 : decode cX4_halveOne 85 = .ok (.getfield 38, 3) := by decide +kernel
theorem dX4_halveOne_88 : decode cX4_halveOne 88 = .ok (.iload_n 1, 1) := by decide +kernel
theorem dX4_halveOne_89 : decode cX4_halveOne 89 = .ok (.iaload, 1) := by decide +kernel
theorem dX4_halveOne_90 : decode cX4_halveOne 90 = .ok (.iconst 2, 1) := by decide +kernel
theorem dX4_halveOne_91 : decode cX4_halveOne 91 = .ok (.idiv, 1) := by decide +kernel
theorem dX4_halveOne_92 : decode cX4_halveOne 92 = .ok (.iastore, 1) := by decide +kernel
theorem dX4_halveOne_93 : decode cX4_halveOne 93 = .ok (.aload_n 0, 1) := by decide +kernel
theorem dX4_halveOne_94 : decode cX4_halveOne 94 = .ok (.getfield 41, 3) := by decide +kernel
theorem dX4_halveOne_97 : decode cX4_halveOne 97 = .ok (.iload_n 1, 1) := by decide +kernel
theorem dX4_halveOne_98 : decode cX4_halveOne 98 = .ok (.iload_n 2, 1) := by decide +kernel
theorem dX4_halveOne_99 : decode cX4_halveOne 99 = .ok (.iastore, 1) := by decide +kernel
theorem dX4_halveOne_100 : decode cX4_halveOne 100 = .ok (.iconst 1, 1) := by decide +kernel
theorem dX4_halveOne_101 : decode cX4_halveOne 101 = .ok (.ireturn, 1) := by decide +kernel
theorem dX4_borrowOnce_0 : decode cX4_borrowOnce 0 = .ok (.aload_n 0, 1) := by decide +kernel
theorem dX4_borrowOnce_1 : decode cX4_borrowOnce 1 = .ok (.getfield 69, 3) := by decide +kernel
theorem dX4_borrowOnce_4 : decode cX4_borrowOnce 4 = .ok (.ifCond .ne 14, 3) := by decide +kernel
theorem dX4_borrowOnce_7 : decode cX4_borrowOnce 7 = .ok (.aload_n 0, 1) := by decide +kernel
theorem dX4_borrowOnce_8 : decode cX4_borrowOnce 8 = .ok (.getfield 9, 3) := by decide +kernel
theorem dX4_borrowOnce_11 : decode cX4_borrowOnce 11 = .ok (.iload_n 1, 1) := by decide +kernel
theorem dX4_borrowOnce_12 : decode cX4_borrowOnce 12 = .ok (.invokevirtual 171, 3) := by decide +kernel
theorem dX4_borrowOnce_15 : decode cX4_borrowOnce 15 = .ok (.ifCond .ne 5, 3) := by decide +kernel
theorem dX4_borrowOnce_18 : decode cX4_borrowOnce 18 = .ok (.iconst 0, 1) := by decide +kernel
theorem dX4_borrowOnce_19 : decode cX4_borrowOnce 19 = .ok (.ireturn, 1) := by decide +kernel
theorem dX4_borrowOnce_20 : decode cX4_borrowOnce 20 = .ok (.aload_n 0, 1) := by decide +kernel
theorem dX4_borrowOnce_21 : decode cX4_borrowOnce 21 = .ok (.iconst 1, 1) := by decide +kernel
theorem dX4_borrowOnce_22 : decode cX4_borrowOnce 22 = .ok (.putfield 69, 3) := by decide +kernel
theorem dX4_borrowOnce_25 : decode cX4_borrowOnce 25 = .ok (.aload_n 0, 1) := by decide +kernel
theorem dX4_borrowOnce_26 : decode cX4_borrowOnce 26 = .ok (.dup, 1) := by decide +kernel
theorem dX4_borrowOnce_27 : decode cX4_borrowOnce 27 = .ok (.getfield 50, 3) := by decide +kernel
theorem dX4_borrowOnce_30 : decode cX4_borrowOnce 30 = .ok (.aload_n 0, 1) := by decide +kernel
theorem dX4_borrowOnce_31 : decode cX4_borrowOnce 31 = .ok (.getfield 9, 3) := by decide +kernel
theorem dX4_borrowOnce_34 : decode cX4_borrowOnce 34 = .ok (.getfield 117, 3) := by decide +kernel
theorem dX4_borrowOnce_37 : decode cX4_borrowOnce 37 = .ok (.iadd, 1) := by decide +kernel
theorem dX4_borrowOnce_38 : decode cX4_borrowOnce 38 = .ok (.putfield 50, 3) := by decide +kernel
theorem dX4_borrowOnce_41 : decode cX4_borrowOnce 41 = .ok (.iconst 1, 1) := by decide +kernel
theorem dX4_borrowOnce_42 : decode cX4_borrowOnce 42 = .ok (.ireturn, 1) := by decide +kernel
theorem dX4_likedMost_0 : decode cX4_likedMost 0 = .ok (.iconst (-1), 1) := by decide +kernel
theorem dX4_likedMost_1 : decode cX4_likedMost 1 = .ok (.istore_n 3, 1) := by decide +kernel
theorem dX4_likedMost_2 : decode cX4_likedMost 2 = .ok (.lconst 0, 1) := by decide +kernel
theorem dX4_likedMost_3 : decode cX4_likedMost 3 = .ok (.lstore 4, 2) := by decide +kernel
theorem dX4_likedMost_5 : decode cX4_likedMost 5 = .ok (.iconst 0, 1) := by decide +kernel
theorem dX4_likedMost_6 : decode cX4_likedMost 6 = .ok (.istore 6, 2) := by decide +kernel
theorem dX4_likedMost_8 : decode cX4_likedMost 8 = .ok (.iload 6, 2) := by decide +kernel
theorem dX4_likedMost_10 : decode cX4_likedMost 10 = .ok (.bipush 8, 2) := by decide +kernel
theorem dX4_likedMost_12 : decode cX4_likedMost 12 = .ok (.if_icmp .ge 62, 3) := by decide +kernel
theorem dX4_likedMost_15 : decode cX4_likedMost 15 = .ok (.aload_n 0, 1) := by decide +kernel
theorem dX4_likedMost_16 : decode cX4_likedMost 16 = .ok (.iload 6, 2) := by decide +kernel
theorem dX4_likedMost_18 : decode cX4_likedMost 18 = .ok (.invokevirtual 158, 3) := by decide +kernel
theorem dX4_likedMost_21 : decode cX4_likedMost 21 = .ok (.ifCond .eq 47, 3) := by decide +kernel
theorem dX4_likedMost_24 : decode cX4_likedMost 24 = .ok (.aload_n 0, 1) := by decide +kernel
theorem dX4_likedMost_25 : decode cX4_likedMost 25 = .ok (.iload 6, 2) := by decide +kernel
theorem dX4_likedMost_27 : decode cX4_likedMost 27 = .ok (.iload_n 2, 1) := by decide +kernel
theorem dX4_likedMost_28 : decode cX4_likedMost 28 = .ok (.invokevirtual 161, 3) := by decide +kernel
theorem dX4_likedMost_31 : decode cX4_likedMost 31 = .ok (.aload_n 0, 1) := by decide +kernel
theorem dX4_likedMost_32 : decode cX4_likedMost 32 = .ok (.getfield 50, 3) := by decide +kernel
theorem dX4_likedMost_35 : decode cX4_likedMost 35 = .ok (.aload_n 1, 1) := by decide +kernel
theorem dX4_likedMost_36 : decode cX4_likedMost 36 = .ok (.getfield 174, 3) := by decide +kernel
theorem dX4_likedMost_39 : decode cX4_likedMost 39 = .ok (.isub, 1) := by decide +kernel
theorem dX4_likedMost_40 : decode cX4_likedMost 40 = .ok (.if_icmp .gt 28, 3) := by decide +kernel
theorem dX4_likedMost_43 : decode cX4_likedMost 43 = .ok (.aload_n 0, 1) := by decide +kernel
theorem dX4_likedMost_44 : decode cX4_likedMost 44 = .ok (.aload_n 1, 1) := by decide +kernel
theorem dX4_likedMost_45 : decode cX4_likedMost 45 = .ok (.iload 6, 2) := by decide +kernel
theorem dX4_likedMost_47 : decode cX4_likedMost 47 = .ok (.iload_n 2, 1) := by decide +kernel
theorem dX4_likedMost_48 : decode cX4_likedMost 48 = .ok (.invokevirtual 179, 3) := by decide +kernel
theorem dX4_likedMost_51 : decode cX4_likedMost 51 = .ok (.lstore 7, 2) := by decide +kernel
theorem dX4_likedMost_53 : decode cX4_likedMost 53 = .ok (.lload 7, 2) := by decide +kernel
theorem dX4_likedMost_55 : decode cX4_likedMost 55 = .ok (.lload 4, 2) := by decide +kernel
theorem dX4_likedMost_57 : decode cX4_likedMost 57 = .ok (.lcmp, 1) := by decide +kernel
theorem dX4_likedMost_58 : decode cX4_likedMost 58 = .ok (.ifCond .le 10, 3) := by decide +kernel
theorem dX4_likedMost_61 : decode cX4_likedMost 61 = .ok (.lload 7, 2) := by decide +kernel
theorem dX4_likedMost_63 : decode cX4_likedMost 63 = .ok (.lstore 4, 2) := by decide +kernel
theorem dX4_likedMost_65 : decode cX4_likedMost 65 = .ok (.iload 6, 2) := by decide +kernel
theorem dX4_likedMost_67 : decode cX4_likedMost 67 = .ok (.istore_n 3, 1) := by decide +kernel
theorem dX4_likedMost_68 : decode cX4_likedMost 68 = .ok (.iinc 6 1, 3) := by decide +kernel
theorem dX4_likedMost_71 : decode cX4_likedMost 71 = .ok (.goto (-63), 3) := by decide +kernel
theorem dX4_likedMost_74 : decode cX4_likedMost 74 = .ok (.iload_n 3, 1) := by decide +kernel
theorem dX4_likedMost_75 : decode cX4_likedMost 75 = .ok (.ireturn, 1) := by decide +kernel
theorem dX4_liking_0 : decode cX4_liking 0 = .ok (.iload_n 2, 1) := by decide +kernel
theorem dX4_liking_1 : decode cX4_liking 1 = .ok (.ifCond .lt 9, 3) := by decide +kernel
theorem dX4_liking_4 : decode cX4_liking 4 = .ok (.iload_n 2, 1) := by decide +kernel
theorem dX4_liking_5 : decode cX4_liking 5 = .ok (.bipush 8, 2) := by decide +kernel
theorem dX4_liking_7 : decode cX4_liking 7 = .ok (.if_icmp .lt 5, 3) := by decide +kernel
theorem dX4_liking_10 : decode cX4_liking 10 = .ok (.lconst 0, 1) := by decide +kernel
theorem dX4_liking_11 : decode cX4_liking 11 = .ok (.lreturn, 1) := by decide +kernel
theorem dX4_liking_12 : decode cX4_liking 12 = .ok (.aload_n 0, 1) := by decide +kernel
theorem dX4_liking_13 : decode cX4_liking 13 = .ok (.invokevirtual 120, 3) := by decide +kernel
theorem dX4_liking_16 : decode cX4_liking 16 = .ok (.istore 4, 2) := by decide +kernel
theorem dX4_liking_18 : decode cX4_liking 18 = .ok (.aload_n 0, 1) := by decide +kernel
theorem dX4_liking_19 : decode cX4_liking 19 = .ok (.getfield 22, 3) := by decide +kernel
theorem dX4_liking_22 : decode cX4_liking 22 = .ok (.iload_n 3, 1) := by decide +kernel
theorem dX4_liking_23 : decode cX4_liking 23 = .ok (.aload_n 0, 1) := by decide +kernel
theorem dX4_liking_24 : decode cX4_liking 24 = .ok (.getfield 51, 3) := by decide +kernel
theorem dX4_liking_27 : decode cX4_liking 27 = .ok (.iload 4, 2) := by decide +kernel
theorem dX4_liking_29 : decode cX4_liking 29 = .ok (.invokevirtual 183, 3) := by decide +kernel
theorem dX4_liking_32 : decode cX4_liking 32 = .ok (.aload_n 0, 1) := by decide +kernel
theorem dX4_liking_33 : decode cX4_liking 33 = .ok (.getfield 22, 3) := by decide +kernel
theorem dX4_liking_36 : decode cX4_liking 36 = .ok (.getfield 187, 3) := by decide +kernel
theorem dX4_liking_39 : decode cX4_liking 39 = .ok (.bipush 22, 2) := by decide +kernel
theorem dX4_liking_41 : decode cX4_liking 41 = .ok (.aload_n 0, 1) := by decide +kernel
theorem dX4_liking_42 : decode cX4_liking 42 = .ok (.iload_n 2, 1) := by decide +kernel
theorem dX4_liking_43 : decode cX4_liking 43 = .ok (.iload_n 3, 1) := by decide +kernel
theorem dX4_liking_44 : decode cX4_liking 44 = .ok (.invokevirtual 161, 3) := by decide +kernel
theorem dX4_liking_47 : decode cX4_liking 47 = .ok (.i2l, 1) := by decide +kernel
theorem dX4_liking_48 : decode cX4_liking 48 = .ok (.lastore, 1) := by decide +kernel
theorem dX4_liking_49 : decode cX4_liking 49 = .ok (.aload_n 0, 1) := by decide +kernel
theorem dX4_liking_50 : decode cX4_liking 50 = .ok (.getfield 22, 3) := by decide +kernel
theorem dX4_liking_53 : decode cX4_liking 53 = .ok (.getfield 187, 3) := by decide +kernel
theorem dX4_liking_56 : decode cX4_liking 56 = .ok (.bipush 23, 2) := by decide +kernel
theorem dX4_liking_58 : decode cX4_liking 58 = .ok (.aload_n 0, 1) := by decide +kernel
theorem dX4_liking_59 : decode cX4_liking 59 = .ok (.getfield 38, 3) := by decide +kernel
theorem dX4_liking_62 : decode cX4_liking 62 = .ok (.iload_n 2, 1) := by decide +kernel
theorem dX4_liking_63 : decode cX4_liking 63 = .ok (.iaload, 1) := by decide +kernel
theorem dX4_liking_64 : decode cX4_liking 64 = .ok (.i2l, 1) := by decide +kernel
theorem dX4_liking_65 : decode cX4_liking 65 = .ok (.lastore, 1) := by decide +kernel
theorem dX4_liking_66 : decode cX4_liking 66 = .ok (.aload_n 0, 1) := by decide +kernel
theorem dX4_liking_67 : decode cX4_liking 67 = .ok (.getfield 22, 3) := by decide +kernel
theorem dX4_liking_70 : decode cX4_liking 70 = .ok (.getfield 187, 3) := by decide +kernel
theorem dX4_liking_73 : decode cX4_liking 73 = .ok (.bipush 24, 2) := by decide +kernel
theorem dX4_liking_75 : decode cX4_liking 75 = .ok (.aload_n 0, 1) := by decide +kernel
theorem dX4_liking_76 : decode cX4_liking 76 = .ok (.getfield 9, 3) := by decide +kernel
theorem dX4_liking_79 : decode cX4_liking 79 = .ok (.getfield 191, 3) := by decide +kernel
theorem dX4_liking_82 : decode cX4_liking 82 = .ok (.iload_n 2, 1) := by decide +kernel
theorem dX4_liking_83 : decode cX4_liking 83 = .ok (.iaload, 1) := by decide +kernel
theorem dX4_liking_84 : decode cX4_liking 84 = .ok (.iconst (-1), 1) := by decide +kernel
theorem dX4_liking_85 : decode cX4_liking 85 = .ok (.if_icmp .ne 9, 3) := by decide +kernel
theorem dX4_liking_88 : decode cX4_liking 88 = .ok (.ldc2_w 194, 3) := by decide +kernel
theorem dX4_liking_91 : decode cX4_liking 91 = .ok (.goto 15, 3) := by decide +kernel
theorem dX4_liking_94 : decode cX4_liking 94 = .ok (.aload_n 0, 1) := by decide +kernel
theorem dX4_liking_95 : decode cX4_liking 95 = .ok (.getfield 9, 3) := by decide +kernel
theorem dX4_liking_98 : decode cX4_liking 98 = .ok (.getfield 191, 3) := by decide +kernel
theorem dX4_liking_101 : decode cX4_liking 101 = .ok (.iload_n 2, 1) := by decide +kernel
theorem dX4_liking_102 : decode cX4_liking 102 = .ok (.iaload, 1) := by decide +kernel
theorem dX4_liking_103 : decode cX4_liking 103 = .ok (.iload_n 3, 1) := by decide +kernel
theorem dX4_liking_104 : decode cX4_liking 104 = .ok (.isub, 1) := by decide +kernel
theorem dX4_liking_105 : decode cX4_liking 105 = .ok (.i2l, 1) := by decide +kernel
theorem dX4_liking_106 : decode cX4_liking 106 = .ok (.lastore, 1) := by decide +kernel
theorem dX4_liking_107 : decode cX4_liking 107 = .ok (.aload_n 0, 1) := by decide +kernel
theorem dX4_liking_108 : decode cX4_liking 108 = .ok (.getfield 22, 3) := by decide +kernel
theorem dX4_liking_111 : decode cX4_liking 111 = .ok (.getfield 187, 3) := by decide +kernel
theorem dX4_liking_114 : decode cX4_liking 114 = .ok (.bipush 13, 2) := by decide +kernel
theorem dX4_liking_116 : decode cX4_liking 116 = .ok (.aload_n 0, 1) := by decide +kernel
theorem dX4_liking_117 : decode cX4_liking 117 = .ok (.getfield 9, 3) := by decide +kernel
theorem dX4_liking_120 : decode cX4_liking 120 = .ok (.getfield 196, 3) := by decide +kernel
theorem dX4_liking_123 : decode cX4_liking 123 = .ok (.iload_n 2, 1) := by decide +kernel
theorem dX4_liking_124 : decode cX4_liking 124 = .ok (.iaload, 1) := by decide +kernel
theorem dX4_liking_125 : decode cX4_liking 125 = .ok (.i2l, 1) := by decide +kernel
theorem dX4_liking_126 : decode cX4_liking 126 = .ok (.lastore, 1) := by decide +kernel
theorem dX4_liking_127 : decode cX4_liking 127 = .ok (.aload_n 0, 1) := by decide +kernel
theorem dX4_liking_128 : decode cX4_liking 128 = .ok (.getfield 22, 3) := by decide +kernel
theorem dX4_liking_131 : decode cX4_liking 131 = .ok (.getfield 187, 3) := by decide +kernel
theorem dX4_liking_134 : decode cX4_liking 134 = .ok (.bipush 8, 2) := by decide +kernel
theorem dX4_liking_136 : decode cX4_liking 136 = .ok (.aload_n 0, 1) := by decide +kernel
theorem dX4_liking_137 : decode cX4_liking 137 = .ok (.getfield 50, 3) := by decide +kernel
theorem dX4_liking_140 : decode cX4_liking 140 = .ok (.i2l, 1) := by decide +kernel
theorem dX4_liking_141 : decode cX4_liking 141 = .ok (.lastore, 1) := by decide +kernel
theorem dX4_liking_142 : decode cX4_liking 142 = .ok (.aload_n 1, 1) := by decide +kernel
theorem dX4_liking_143 : decode cX4_liking 143 = .ok (.getfield 199, 3) := by decide +kernel
theorem dX4_liking_146 : decode cX4_liking 146 = .ok (.bipush 25, 2) := by decide +kernel
theorem dX4_liking_148 : decode cX4_liking 148 = .ok (.invokevirtual 203, 3) := by decide +kernel
theorem dX4_liking_151 : decode cX4_liking 151 = .ok (.ifCond .eq 68, 3) := by decide +kernel
theorem dX4_liking_154 : decode cX4_liking 154 = .ok (.iconst 1, 1) := by decide +kernel
theorem dX4_liking_155 : decode cX4_liking 155 = .ok (.iload_n 2, 1) := by decide +kernel
theorem dX4_liking_156 : decode cX4_liking 156 = .ok (.ishl, 1) := by decide +kernel
theorem dX4_liking_157 : decode cX4_liking 157 = .ok (.istore 5, 2) := by decide +kernel
theorem dX4_liking_159 : decode cX4_liking 159 = .ok (.aload_n 0, 1) := by decide +kernel
theorem dX4_liking_160 : decode cX4_liking 160 = .ok (.getfield 9, 3) := by decide +kernel
theorem dX4_liking_163 : decode cX4_liking 163 = .ok (.aload_n 0, 1) := by decide +kernel
theorem dX4_liking_164 : decode cX4_liking 164 = .ok (.getfield 15, 3) := by decide +kernel
theorem dX4_liking_167 : decode cX4_liking 167 = .ok (.iload_n 3, 1) := by decide +kernel
theorem dX4_liking_168 : decode cX4_liking 168 = .ok (.aload_n 0, 1) := by decide +kernel
theorem dX4_liking_169 : decode cX4_liking 169 = .ok (.getfield 51, 3) := by decide +kernel
theorem dX4_liking_172 : decode cX4_liking 172 = .ok (.iload 4, 2) := by decide +kernel
theorem dX4_liking_174 : decode cX4_liking 174 = .ok (.invokevirtual 124, 3) := by decide +kernel
theorem dX4_liking_177 : decode cX4_liking 177 = .ok (.istore 6, 2) := by decide +kernel
theorem dX4_liking_179 : decode cX4_liking 179 = .ok (.aload_n 0, 1) := by decide +kernel
theorem dX4_liking_180 : decode cX4_liking 180 = .ok (.getfield 22, 3) := by decide +kernel
theorem dX4_liking_183 : decode cX4_liking 183 = .ok (.getfield 187, 3) := by decide +kernel
theorem dX4_liking_186 : decode cX4_liking 186 = .ok (.bipush 25, 2) := by decide +kernel
theorem dX4_liking_188 : decode cX4_liking 188 = .ok (.aload_n 0, 1) := by decide +kernel
theorem dX4_liking_189 : decode cX4_liking 189 = .ok (.getfield 9, 3) := by decide +kernel
theorem dX4_liking_192 : decode cX4_liking 192 = .ok (.aload_n 0, 1) := by decide +kernel
theorem dX4_liking_193 : decode cX4_liking 193 = .ok (.getfield 15, 3) := by decide +kernel
theorem dX4_liking_196 : decode cX4_liking 196 = .ok (.iload_n 3, 1) := by decide +kernel
theorem dX4_liking_197 : decode cX4_liking 197 = .ok (.aload_n 0, 1) := by decide +kernel
theorem dX4_liking_198 : decode cX4_liking 198 = .ok (.getfield 51, 3) := by decide +kernel
theorem dX4_liking_201 : decode cX4_liking 201 = .ok (.iload 5, 2) := by decide +kernel
theorem dX4_liking_203 : decode cX4_liking 203 = .ok (.ior, 1) := by decide +kernel
theorem dX4_liking_204 : decode cX4_liking 204 = .ok (.iload 4, 2) := by decide +kernel
theorem dX4_liking_206 : decode cX4_liking 206 = .ok (.iload 5, 2) := by decide +kernel
theorem dX4_liking_208 : decode cX4_liking 208 = .ok (.iconst (-1), 1) := by decide +kernel
theorem dX4_liking_209 : decode cX4_liking 209 = .ok (.ixor, 1) := by decide +kernel
theorem dX4_liking_210 : decode cX4_liking 210 = .ok (.iand, 1) := by decide +kernel
theorem dX4_liking_211 : decode cX4_liking 211 = .ok (.invokevirtual 124, 3) := by decide +kernel
theorem dX4_liking_214 : decode cX4_liking 214 = .ok (.iload 6, 2) := by decide +kernel
theorem dX4_liking_216 : decode cX4_liking 216 = .ok (.isub, 1) := by decide +kernel
theorem dX4_liking_217 : decode cX4_liking 217 = .ok (.i2l, 1) := by decide +kernel
theorem dX4_liking_218 : decode cX4_liking 218 = .ok (.lastore, 1) := by decide +kernel
theorem dX4_liking_219 : decode cX4_liking 219 = .ok (.aload_n 1, 1) := by decide +kernel
theorem dX4_liking_220 : decode cX4_liking 220 = .ok (.aload_n 0, 1) := by decide +kernel
theorem dX4_liking_221 : decode cX4_liking 221 = .ok (.getfield 22, 3) := by decide +kernel
theorem dX4_liking_224 : decode cX4_liking 224 = .ok (.invokevirtual 208, 3) := by decide +kernel
theorem dX4_liking_227 : decode cX4_liking 227 = .ok (.lreturn, 1) := by decide +kernel
theorem dX5_init_0 : decode cX5_init 0 = .ok (.aload_n 0, 1) := by decide +kernel
theorem dX5_init_1 : decode cX5_init 1 = .ok (.invokespecial 3, 3) := by decide +kernel
theorem dX5_init_4 : decode cX5_init 4 = .ok (.aload_n 0, 1) := by decide +kernel
theorem dX5_init_5 : decode cX5_init 5 = .ok (.aload_n 1, 1) := by decide +kernel
theorem dX5_init_6 : decode cX5_init 6 = .ok (.putfield 9, 3) := by decide +kernel
theorem dX5_init_9 : decode cX5_init 9 = .ok (.aload_n 0, 1) := by decide +kernel
theorem dX5_init_10 : decode cX5_init 10 = .ok (.aload_n 2, 1) := by decide +kernel
theorem dX5_init_11 : decode cX5_init 11 = .ok (.putfield 15, 3) := by decide +kernel
theorem dX5_init_14 : decode cX5_init 14 = .ok (.aload_n 0, 1) := by decide +kernel
theorem dX5_init_15 : decode cX5_init 15 = .ok (.bipush 8, 2) := by decide +kernel
theorem dX5_init_17 : decode cX5_init 17 = .ok (.newarray .int, 2) := by decide +kernel
theorem dX5_init_19 : decode cX5_init 19 = .ok (.putfield 19, 3) := by decide +kernel
theorem dX5_init_22 : decode cX5_init 22 = .ok (.aload_n 0, 1) := by decide +kernel
theorem dX5_init_23 : decode cX5_init 23 = .ok (.sipush 15360, 3) := by decide +kernel
theorem dX5_init_26 : decode cX5_init 26 = .ok (.newarray .int, 2) := by decide +kernel
theorem dX5_init_28 : decode cX5_init 28 = .ok (.putfield 23, 3) := by decide +kernel
theorem dX5_init_31 : decode cX5_init 31 = .ok (.aload_n 0, 1) := by decide +kernel
theorem dX5_init_32 : decode cX5_init 32 = .ok (.sipush 15360, 3) := by decide +kernel
theorem dX5_init_35 : decode cX5_init 35 = .ok (.newarray .int, 2) := by decide +kernel
theorem dX5_init_37 : decode cX5_init 37 = .ok (.putfield 26, 3) := by decide +kernel
theorem dX5_init_40 : decode cX5_init 40 = .ok (.aload_n 0, 1) := by decide +kernel
theorem dX5_init_41 : decode cX5_init 41 = .ok (.sipush 15360, 3) := by decide +kernel
theorem dX5_init_44 : decode cX5_init 44 = .ok (.newarray .int, 2) := by decide +kernel
theorem dX5_init_46 : decode cX5_init 46 = .ok (.putfield 29, 3) := by decide +kernel
theorem dX5_init_49 : decode cX5_init 49 = .ok (.aload_n 0, 1) := by decide +kernel
theorem dX5_init_50 : decode cX5_init 50 = .ok (.sipush 256, 3) := by decide +kernel
theorem dX5_init_53 : decode cX5_init 53 = .ok (.newarray .int, 2) := by decide +kernel
theorem dX5_init_55 : decode cX5_init 55 = .ok (.putfield 32, 3) := by decide +kernel
theorem dX5_init_58 : decode cX5_init 58 = .ok (.aload_n 0, 1) := by decide +kernel
theorem dX5_init_59 : decode cX5_init 59 = .ok (.sipush 256, 3) := by decide +kernel
theorem dX5_init_62 : decode cX5_init 62 = .ok (.newarray .int, 2) := by decide +kernel
theorem dX5_init_64 : decode cX5_init 64 = .ok (.putfield 35, 3) := by decide +kernel
theorem dX5_init_67 : decode cX5_init 67 = .ok (.aload_n 0, 1) := by decide +kernel
theorem dX5_init_68 : decode cX5_init 68 = .ok (.bipush 81, 2) := by decide +kernel
theorem dX5_init_70 : decode cX5_init 70 = .ok (.newarray .int, 2) := by decide +kernel
theorem dX5_init_72 : decode cX5_init 72 = .ok (.putfield 38, 3) := by decide +kernel
theorem dX5_init_75 : decode cX5_init 75 = .ok (.aload_n 0, 1) := by decide +kernel
theorem dX5_init_76 : decode cX5_init 76 = .ok (.bipush 81, 2) := by decide +kernel
theorem dX5_init_78 : decode cX5_init 78 = .ok (.newarray .int, 2) := by decide +kernel
theorem dX5_init_80 : decode cX5_init 80 = .ok (.putfield 41, 3) := by decide +kernel
theorem dX5_init_83 : decode cX5_init 83 = .ok (.return_, 1) := by decide +kernel
theorem dX5_prepare_0 : decode cX5_prepare 0 = .ok (.aload_n 0, 1) := by decide +kernel
theorem dX5_prepare_1 : decode cX5_prepare 1 = .ok (.getfield 44, 3) := by decide +kernel
theorem dX5_prepare_4 : decode cX5_prepare 4 = .ok (.ifCond .eq 4, 3) := by decide +kernel
theorem dX5_prepare_7 : decode cX5_prepare 7 = .ok (.return_, 1) := by decide +kernel
theorem dX5_prepare_8 : decode cX5_prepare 8 = .ok (.aload_n 0, 1) := by decide +kernel
theorem dX5_prepare_9 : decode cX5_prepare 9 = .ok (.aload_n 0, 1) := by decide +kernel
theorem dX5_prepare_10 : decode cX5_prepare 10 = .ok (.getfield 26, 3) := by decide +kernel
theorem dX5_prepare_13 : decode cX5_prepare 13 = .ok (.iconst 0, 1) := by decide +kernel
theorem dX5_prepare_14 : decode cX5_prepare 14 = .ok (.invokevirtual 48, 3) := by decide +kernel
theorem dX5_prepare_17 : decode cX5_prepare 17 = .ok (.aload_n 0, 1) := by decide +kernel
theorem dX5_prepare_18 : decode cX5_prepare 18 = .ok (.getfield 9, 3) := by decide +kernel
theorem dX5_prepare_21 : decode cX5_prepare 21 = .ok (.getfield 52, 3) := by decide +kernel
theorem dX5_prepare_24 : decode cX5_prepare 24 = .ok (.bipush 21, 2) := by decide +kernel
theorem dX5_prepare_26 : decode cX5_prepare 26 = .ok (.invokevirtual 58, 3) := by decide +kernel
theorem dX5_prepare_29 : decode cX5_prepare 29 = .ok (.ifCond .eq 12, 3) := by decide +kernel
theorem dX5_prepare_32 : decode cX5_prepare 32 = .ok (.aload_n 0, 1) := by decide +kernel
theorem dX5_prepare_33 : decode cX5_prepare 33 = .ok (.aload_n 0, 1) := by decide +kernel
theorem dX5_prepare_34 : decode cX5_prepare 34 = .ok (.getfield 29, 3) := by decide +kernel
theorem dX5_prepare_37 : decode cX5_prepare 37 = .ok (.iconst 1, 1) := by decide +kernel
theorem dX5_prepare_38 : decode cX5_prepare 38 = .ok (.invokevirtual 48, 3) := by decide +kernel
theorem dX5_prepare_41 : decode cX5_prepare 41 = .ok (.aload_n 0, 1) := by decide +kernel
theorem dX5_prepare_42 : decode cX5_prepare 42 = .ok (.getfield 32, 3) := by decide +kernel
theorem dX5_prepare_45 : decode cX5_prepare 45 = .ok (.iconst 0, 1) := by decide +kernel
theorem dX5_prepare_46 : decode cX5_prepare 46 = .ok (.aload_n 0, 1) := by decide +kernel
theorem dX5_prepare_47 : decode cX5_prepare 47 = .ok (.getfield 9, 3) := by decide +kernel
theorem dX5_prepare_50 : decode cX5_prepare 50 = .ok (.getfield 64, 3) := by decide +kernel
theorem dX5_prepare_53 : decode cX5_prepare 53 = .ok (.invokestatic 68, 3) := by decide +kernel
theorem dX5_prepare_56 : decode cX5_prepare 56 = .ok (.aload_n 0, 1) := by decide +kernel
theorem dX5_prepare_57 : decode cX5_prepare 57 = .ok (.iconst 0, 1) := by decide +kernel
theorem dX5_prepare_58 : decode cX5_prepare 58 = .ok (.putfield 72, 3) := by decide +kernel
theorem dX5_prepare_61 : decode cX5_prepare 61 = .ok (.aload_n 0, 1) := by decide +kernel
theorem dX5_prepare_62 : decode cX5_prepare 62 = .ok (.iconst 0, 1) := by decide +kernel
theorem dX5_prepare_63 : decode cX5_prepare 63 = .ok (.putfield 75, 3) := by decide +kernel
theorem dX5_prepare_66 : decode cX5_prepare 66 = .ok (.iconst 0, 1) := by decide +kernel
theorem dX5_prepare_67 : decode cX5_prepare 67 = .ok (.istore_n 1, 1) := by decide +kernel
theorem dX5_prepare_68 : decode cX5_prepare 68 = .ok (.iload_n 1, 1) := by decide +kernel
theorem dX5_prepare_69 : decode cX5_prepare 69 = .ok (.aload_n 0, 1) := by decide +kernel
theorem dX5_prepare_70 : decode cX5_prepare 70 = .ok (.getfield 9, 3) := by decide +kernel
theorem dX5_prepare_73 : decode cX5_prepare 73 = .ok (.getfield 78, 3) := by decide +kernel
theorem dX5_prepare_76 : decode cX5_prepare 76 = .ok (.if_icmp .ge 53, 3) := by decide +kernel
theorem dX5_prepare_79 : decode cX5_prepare 79 = .ok (.iload_n 1, 1) := by decide +kernel
theorem dX5_prepare_80 : decode cX5_prepare 80 = .ok (.bipush 60, 2) := by decide +kernel
theorem dX5_prepare_82 : decode cX5_prepare 82 = .ok (.if_icmp .ge 47, 3) := by decide +kernel
theorem dX5_prepare_85 : decode cX5_prepare 85 = .ok (.aload_n 0, 1) := by decide +kernel
theorem dX5_prepare_86 : decode cX5_prepare 86 = .ok (.aload_n 0, 1) := by decide +kernel
theorem dX5_prepare_87 : decode cX5_prepare 87 = .ok (.getfield 32, 3) := by decide +kernel
theorem dX5_prepare_90 : decode cX5_prepare 90 = .ok (.iload_n 1, 1) := by decide +kernel
theorem dX5_prepare_91 : decode cX5_prepare 91 = .ok (.iconst 0, 1) := by decide +kernel
theorem dX5_prepare_92 : decode cX5_prepare 92 = .ok (.aload_n 0, 1) := by decide +kernel
theorem dX5_prepare_93 : decode cX5_prepare 93 = .ok (.getfield 26, 3) := by decide +kernel
theorem dX5_prepare_96 : decode cX5_prepare 96 = .ok (.invokevirtual 81, 3) := by decide +kernel
theorem dX5_prepare_99 : decode cX5_prepare 99 = .ok (.aload_n 0, 1) := by decide +kernel
theorem dX5_prepare_100 : decode cX5_prepare 100 = .ok (.getfield 32, 3) := by decide +kernel
theorem dX5_prepare_103 : decode cX5_prepare 103 = .ok (.iconst 0, 1) := by decide +kernel
theorem dX5_prepare_104 : decode cX5_prepare 104 = .ok (.aload_n 0, 1) := by decide +kernel
theorem dX5_prepare_105 : decode cX5_prepare 105 = .ok (.getfield 23, 3) := by decide +kernel
theorem dX5_prepare_108 : decode cX5_prepare 108 = .ok (.iload_n 1, 1) := by decide +kernel
theorem dX5_prepare_109 : decode cX5_prepare 109 = .ok (.sipush 256, 3) := by decide +kernel
theorem dX5_prepare_112 : decode cX5_prepare 112 = .ok (.imul, 1) := by decide +kernel
theorem dX5_prepare_113 : decode cX5_prepare 113 = .ok (.sipush 256, 3) := by decide +kernel
theorem dX5_prepare_116 : decode cX5_prepare 116 = .ok (.invokestatic 85, 3) := by decide +kernel
theorem dX5_prepare_119 : decode cX5_prepare 119 = .ok (.aload_n 0, 1) := by decide +kernel
theorem dX5_prepare_120 : decode cX5_prepare 120 = .ok (.invokevirtual 91, 3) := by decide +kernel
theorem dX5_prepare_123 : decode cX5_prepare 123 = .ok (.iinc 1 1, 3) := by decide +kernel
theorem dX5_prepare_126 : decode cX5_prepare 126 = .ok (.goto (-58), 3) := by decide +kernel
theorem dX5_prepare_129 : decode cX5_prepare 129 = .ok (.aload_n 0, 1) := by decide +kernel
theorem dX5_prepare_130 : decode cX5_prepare 130 = .ok (.aload_n 0, 1) := by decide +kernel
theorem dX5_prepare_131 : decode cX5_prepare 131 = .ok (.getfield 32, 3) := by decide +kernel
theorem dX5_prepare_134 : decode cX5_prepare 134 = .ok (.invokestatic 94, 3) := by decide +kernel
theorem dX5_prepare_137 : decode cX5_prepare 137 = .ok (.putfield 98, 3) := by decide +kernel
theorem dX5_prepare_140 : decode cX5_prepare 140 = .ok (.aload_n 0, 1) := by decide +kernel
theorem dX5_prepare_141 : decode cX5_prepare 141 = .ok (.aload_n 0, 1) := by decide +kernel
theorem dX5_prepare_142 : decode cX5_prepare 142 = .ok (.invokevirtual 101, 3) := by decide +kernel
theorem dX5_prepare_145 : decode cX5_prepare 145 = .ok (.putfield 105, 3) := by decide +kernel
theorem dX5_prepare_148 : decode cX5_prepare 148 = .ok (.aload_n 0, 1) := by decide +kernel
theorem dX5_prepare_149 : decode cX5_prepare 149 = .ok (.invokevirtual 108, 3) := by decide +kernel
theorem dX5_prepare_152 : decode cX5_prepare 152 = .ok (.aload_n 0, 1) := by decide +kernel
theorem dX5_prepare_153 : decode cX5_prepare 153 = .ok (.iconst 1, 1) := by decide +kernel
theorem dX5_prepare_154 : decode cX5_prepare 154 = .ok (.putfield 44, 3) := by decide +kernel
theorem dX5_prepare_157 : decode cX5_prepare 157 = .ok (.return_, 1) := by decide +kernel
theorem dX5_countStates_0 : decode cX5_countStates 0 = .ok (.iconst 0, 1) := by decide +kernel
theorem dX5_countStates_1 : decode cX5_countStates 1 = .ok (.istore_n 1, 1) := by decide +kernel
theorem dX5_countStates_2 : decode cX5_countStates 2 = .ok (.iload_n 1, 1) := by decide +kernel
theorem dX5_countStates_3 : decode cX5_countStates 3 = .ok (.aload_n 0, 1) := by decide +kernel
theorem dX5_countStates_4 : decode cX5_countStates 4 = .ok (.getfield 9, 3) := by decide +kernel
theorem dX5_countStates_7 : decode cX5_countStates 7 = .ok (.getfield 111, 3) := by decide +kernel
theorem dX5_countStates_10 : decode cX5_countStates 10 = .ok (.if_icmp .gt 45, 3) := by decide +kernel
theorem dX5_countStates_13 : decode cX5_countStates 13 = .ok (.iload_n 1, 1) := by decide +kernel
theorem dX5_countStates_14 : decode cX5_countStates 14 = .ok (.sipush 256, 3) := by decide +kernel
theorem dX5_countStates_17 : decode cX5_countStates 17 = .ok (.if_icmp .ge 38, 3) := by decide +kernel
theorem dX5_countStates_20 : decode cX5_countStates 20 = .ok (.aload_n 0, 1) := by decide +kernel
theorem dX5_countStates_21 : decode cX5_countStates 21 = .ok (.getfield 32, 3) := by decide +kernel
theorem dX5_countStates_24 : decode cX5_countStates 24 = .ok (.iload_n 1, 1) := by decide +kernel
theorem dX5_countStates_25 : decode cX5_countStates 25 = .ok (.iaload, 1) := by decide +kernel
theorem dX5_countStates_26 : decode cX5_countStates 26 = .ok (.ifCond .lt 23, 3) := by decide +kernel
theorem dX5_countStates_29 : decode cX5_countStates 29 = .ok (.aload_n 0, 1) := by decide +kernel
theorem dX5_countStates_30 : decode cX5_countStates 30 = .ok (.dup, 1) := by decide +kernel
theorem dX5_countStates_31 : decode cX5_countStates 31 = .ok (.getfield 72, 3) := by decide +kernel
theorem dX5_countStates_34 : decode cX5_countStates 34 = .ok (.iconst 1, 1) := by decide +kernel
theorem dX5_countStates_35 : decode cX5_countStates 35 = .ok (.iadd, 1) := by decide +kernel
theorem dX5_countStates_36 : decode cX5_countStates 36 = .ok (.putfield 72, 3) := by decide +kernel
theorem dX5_countStates_39 : decode cX5_countStates 39 = .ok (.aload_n 0, 1) := by decide +kernel
theorem dX5_countStates_40 : decode cX5_countStates 40 = .ok (.dup, 1) := by decide +kernel
theorem dX5_countStates_41 : decode cX5_countStates 41 = .ok (.getfield 75, 3) := by decide +kernel
theorem dX5_countStates_44 : decode cX5_countStates 44 = .ok (.iload_n 1, 1) := by decide +kernel
theorem dX5_countStates_45 : decode cX5_countStates 45 = .ok (.ior, 1) := by decide +kernel
theorem dX5_countStates_46 : decode cX5_countStates 46 = .ok (.putfield 75, 3) := by decide +kernel
theorem dX5_countStates_49 : decode cX5_countStates 49 = .ok (.iinc 1 1, 3) := by decide +kernel
theorem dX5_countStates_52 : decode cX5_countStates 52 = .ok (.goto (-50), 3) := by decide +kernel
theorem dX5_countStates_55 : decode cX5_countStates 55 = .ok (.return_, 1) := by decide +kernel
theorem dX5_lastSet_0 : decode cX5_lastSet 0 = .ok (.iconst 0, 1) := by decide +kernel
theorem dX5_lastSet_1 : decode cX5_lastSet 1 = .ok (.istore_n 1, 1) := by decide +kernel
theorem dX5_lastSet_2 : decode cX5_lastSet 2 = .ok (.iload_n 1, 1) := by decide +kernel
theorem dX5_lastSet_3 : decode cX5_lastSet 3 = .ok (.sipush 256, 3) := by decide +kernel
theorem dX5_lastSet_6 : decode cX5_lastSet 6 = .ok (.if_icmp .ge 33, 3) := by decide +kernel
theorem dX5_lastSet_9 : decode cX5_lastSet 9 = .ok (.aload_n 0, 1) := by decide +kernel
theorem dX5_lastSet_10 : decode cX5_lastSet 10 = .ok (.getfield 32, 3) := by decide +kernel
theorem dX5_lastSet_13 : decode cX5_lastSet 13 = .ok (.iload_n 1, 1) := by decide +kernel
theorem dX5_lastSet_14 : decode cX5_lastSet 14 = .ok (.iaload, 1) := by decide +kernel
theorem dX5_lastSet_15 : decode cX5_lastSet 15 = .ok (.ifCond .lt 18, 3) := by decide +kernel
theorem dX5_lastSet_18 : decode cX5_lastSet 18 = .ok (.aload_n 0, 1) := by decide +kernel
theorem dX5_lastSet_19 : decode cX5_lastSet 19 = .ok (.getfield 32, 3) := by decide +kernel
theorem dX5_lastSet_22 : decode cX5_lastSet 22 = .ok (.iload_n 1, 1) := by decide +kernel
theorem dX5_lastSet_23 : decode cX5_lastSet 23 = .ok (.iaload, 1) := by decide +kernel
theorem dX5_lastSet_24 : decode cX5_lastSet 24 = .ok (.aload_n 0, 1) := by decide +kernel
theorem dX5_lastSet_25 : decode cX5_lastSet 25 = .ok (.getfield 98, 3) := by decide +kernel
theorem dX5_lastSet_28 : decode cX5_lastSet 28 = .ok (.if_icmp .ne 5, 3) := by decide +kernel
theorem dX5_lastSet_31 : decode cX5_lastSet 31 = .ok (.iload_n 1, 1) := by decide +kernel
theorem dX5_lastSet_32 : decode cX5_lastSet 32 = .ok (.ireturn, 1) := by decide +kernel
theorem dX5_lastSet_33 : decode cX5_lastSet 33 = .ok (.iinc 1 1, 3) := by decide +kernel
theorem dX5_lastSet_36 : decode cX5_lastSet 36 = .ok (.goto (-34), 3) := by decide +kernel
theorem dX5_lastSet_39 : decode cX5_lastSet 39 = .ok (.iconst 0, 1) := by decide +kernel
theorem dX5_lastSet_40 : decode cX5_lastSet 40 = .ok (.ireturn, 1) := by decide +kernel
theorem dX5_fillGains_0 : decode cX5_fillGains 0 = .ok (.iconst 0, 1) := by decide +kernel
theorem dX5_fillGains_1 : decode cX5_fillGains 1 = .ok (.istore_n 3, 1) := by decide +kernel
theorem dX5_fillGains_2 : decode cX5_fillGains 2 = .ok (.iload_n 3, 1) := by decide +kernel
theorem dX5_fillGains_3 : decode cX5_fillGains 3 = .ok (.aload_n 0, 1) := by decide +kernel
theorem dX5_fillGains_4 : decode cX5_fillGains 4 = .ok (.getfield 9, 3) := by decide +kernel
theorem dX5_fillGains_7 : decode cX5_fillGains 7 = .ok (.getfield 78, 3) := by decide +kernel
theorem dX5_fillGains_10 : decode cX5_fillGains 10 = .ok (.if_icmp .ge 171, 3) := by decide +kernel
theorem dX5_fillGains_13 : decode cX5_fillGains 13 = .ok (.iload_n 3, 1) := by decide +kernel
theorem dX5_fillGains_14 : decode cX5_fillGains 14 = .ok (.bipush 60, 2) := by decide +kernel
theorem dX5_fillGains_16 : decode cX5_fillGains 16 = .ok (.if_icmp .ge 165, 3) := by decide +kernel
theorem dX5_fillGains_19 : decode cX5_fillGains 19 = .ok (.aload_n 0, 1) := by decide +kernel
theorem dX5_fillGains_20 : decode cX5_fillGains 20 = .ok (.iload_n 3, 1) := by decide +kernel
theorem dX5_fillGains_21 : decode cX5_fillGains 21 = .ok (.invokevirtual 114, 3) := by decide +kernel
theorem dX5_fillGains_24 : decode cX5_fillGains 24 = .ok (.aload_n 0, 1) := by decide +kernel
theorem dX5_fillGains_25 : decode cX5_fillGains 25 = .ok (.getfield 9, 3) := by decide +kernel
theorem dX5_fillGains_28 : decode cX5_fillGains 28 = .ok (.iload_n 3, 1) := by decide +kernel
theorem dX5_fillGains_29 : decode cX5_fillGains 29 = .ok (.invokevirtual 118, 3) := by decide +kernel
theorem dX5_fillGains_32 : decode cX5_fillGains 32 = .ok (.istore 4, 2) := by decide +kernel
theorem dX5_fillGains_34 : decode cX5_fillGains 34 = .ok (.iconst 0, 1) := by decide +kernel
theorem dX5_fillGains_35 : decode cX5_fillGains 35 = .ok (.istore 5, 2) := by decide +kernel
theorem dX5_fillGains_37 : decode cX5_fillGains 37 = .ok (.iload 5, 2) := by decide +kernel
theorem dX5_fillGains_39 : decode cX5_fillGains 39 = .ok (.aload_n 0, 1) := by decide +kernel
theorem dX5_fillGains_40 : decode cX5_fillGains 40 = .ok (.getfield 9, 3) := by decide +kernel
theorem dX5_fillGains_43 : decode cX5_fillGains 43 = .ok (.getfield 111, 3) := by decide +kernel
theorem dX5_fillGains_46 : decode cX5_fillGains 46 = .ok (.if_icmp .gt 129, 3) := by decide +kernel
theorem dX5_fillGains_49 : decode cX5_fillGains 49 = .ok (.iload 5, 2) := by decide +kernel
theorem dX5_fillGains_51 : decode cX5_fillGains 51 = .ok (.sipush 256, 3) := by decide +kernel
theorem dX5_fillGains_54 : decode cX5_fillGains 54 = .ok (.if_icmp .ge 121, 3) := by decide +kernel
theorem dX5_fillGains_57 : decode cX5_fillGains 57 = .ok (.aload_n 0, 1) := by decide +kernel
theorem dX5_fillGains_58 : decode cX5_fillGains 58 = .ok (.getfield 9, 3) := by decide +kernel
theorem dX5_fillGains_61 : decode cX5_fillGains 61 = .ok (.getfield 111, 3) := by decide +kernel
theorem dX5_fillGains_64 : decode cX5_fillGains 64 = .ok (.iload 5, 2) := by decide +kernel
theorem dX5_fillGains_66 : decode cX5_fillGains 66 = .ok (.iconst (-1), 1) := by decide +kernel
theorem dX5_fillGains_67 : decode cX5_fillGains 67 = .ok (.ixor, 1) := by decide +kernel
theorem dX5_fillGains_68 : decode cX5_fillGains 68 = .ok (.iand, 1) := by decide +kernel
theorem dX5_fillGains_69 : decode cX5_fillGains 69 = .ok (.iload 4, 2) := by decide +kernel
theorem dX5_fillGains_71 : decode cX5_fillGains 71 = .ok (.iconst (-1), 1) := by decide +kernel
theorem dX5_fillGains_72 : decode cX5_fillGains 72 = .ok (.ixor, 1) := by decide +kernel
theorem dX5_fillGains_73 : decode cX5_fillGains 73 = .ok (.iand, 1) := by decide +kernel
theorem dX5_fillGains_74 : decode cX5_fillGains 74 = .ok (.invokestatic 122, 3) := by decide +kernel
theorem dX5_fillGains_77 : decode cX5_fillGains 77 = .ok (.iload_n 2, 1) := by decide +kernel
theorem dX5_fillGains_78 : decode cX5_fillGains 78 = .ok (.isub, 1) := by decide +kernel
theorem dX5_fillGains_79 : decode cX5_fillGains 79 = .ok (.istore 6, 2) := by decide +kernel
theorem dX5_fillGains_81 : decode cX5_fillGains 81 = .ok (.iload 5, 2) := by decide +kernel
theorem dX5_fillGains_83 : decode cX5_fillGains 83 = .ok (.invokestatic 122, 3) := by decide +kernel
theorem dX5_fillGains_86 : decode cX5_fillGains 86 = .ok (.bipush 9, 2) := by decide +kernel
theorem dX5_fillGains_88 : decode cX5_fillGains 88 = .ok (.imul, 1) := by decide +kernel
theorem dX5_fillGains_89 : decode cX5_fillGains 89 = .ok (.iload 6, 2) := by decide +kernel
theorem dX5_fillGains_91 : decode cX5_fillGains 91 = .ok (.iconst 0, 1) := by decide +kernel
theorem dX5_fillGains_92 : decode cX5_fillGains 92 = .ok (.invokestatic 127, 3) := by decide +kernel
theorem dX5_fillGains_95 : decode cX5_fillGains 95 = .ok (.iadd, 1) := by decide +kernel
theorem dX5_fillGains_96 : decode cX5_fillGains 96 = .ok (.istore 7, 2) := by decide +kernel
theorem dX5_fillGains_98 : decode cX5_fillGains 98 = .ok (.iload 7, 2) := by decide +kernel
theorem dX5_fillGains_100 : decode cX5_fillGains 100 = .ok (.aload_n 0, 1) := by decide +kernel
theorem dX5_fillGains_101 : decode cX5_fillGains 101 = .ok (.getfield 38, 3) := by decide +kernel
theorem dX5_fillGains_104 : decode cX5_fillGains 104 = .ok (.arraylength, 1) := by decide +kernel
theorem dX5_fillGains_105 : decode cX5_fillGains 105 = .ok (.if_icmp .ge 64, 3) := by decide +kernel
theorem dX5_fillGains_108 : decode cX5_fillGains 108 = .ok (.aload_n 0, 1) := by decide +kernel
theorem dX5_fillGains_109 : decode cX5_fillGains 109 = .ok (.getfield 9, 3) := by decide +kernel
theorem dX5_fillGains_112 : decode cX5_fillGains 112 = .ok (.iload 5, 2) := by decide +kernel
theorem dX5_fillGains_114 : decode cX5_fillGains 114 = .ok (.invokevirtual 133, 3) := by decide +kernel
theorem dX5_fillGains_117 : decode cX5_fillGains 117 = .ok (.ifCond .eq 52, 3) := by decide +kernel
theorem dX5_fillGains_120 : decode cX5_fillGains 120 = .ok (.aload_n 1, 1) := by decide +kernel
theorem dX5_fillGains_121 : decode cX5_fillGains 121 = .ok (.iload_n 3, 1) := by decide +kernel
theorem dX5_fillGains_122 : decode cX5_fillGains 122 = .ok (.sipush 256, 3) := by decide +kernel
theorem dX5_fillGains_125 : decode cX5_fillGains 125 = .ok (.imul, 1) := by decide +kernel
theorem dX5_fillGains_126 : decode cX5_fillGains 126 = .ok (.iload 5, 2) := by decide +kernel
theorem dX5_fillGains_128 : decode cX5_fillGains 128 = .ok (.iadd, 1) := by decide +kernel
theorem dX5_fillGains_129 : decode cX5_fillGains 129 = .ok (.aload_n 0, 1) := by decide +kernel
theorem dX5_fillGains_130 : decode cX5_fillGains 130 = .ok (.getfield 9, 3) := by decide +kernel
theorem dX5_fillGains_133 : decode cX5_fillGains 133 = .ok (.getfield 136, 3) := by decide +kernel
theorem dX5_fillGains_136 : decode cX5_fillGains 136 = .ok (.aload_n 0, 1) := by decide +kernel
theorem dX5_fillGains_137 : decode cX5_fillGains 137 = .ok (.getfield 38, 3) := by decide +kernel
theorem dX5_fillGains_140 : decode cX5_fillGains 140 = .ok (.iload 7, 2) := by decide +kernel
theorem dX5_fillGains_142 : decode cX5_fillGains 142 = .ok (.iaload, 1) := by decide +kernel
theorem dX5_fillGains_143 : decode cX5_fillGains 143 = .ok (.iload 5, 2) := by decide +kernel
theorem dX5_fillGains_145 : decode cX5_fillGains 145 = .ok (.invokevirtual 140, 3) := by decide +kernel
theorem dX5_fillGains_148 : decode cX5_fillGains 148 = .ok (.aload_n 0, 1) := by decide +kernel
theorem dX5_fillGains_149 : decode cX5_fillGains 149 = .ok (.getfield 9, 3) := by decide +kernel
theorem dX5_fillGains_152 : decode cX5_fillGains 152 = .ok (.getfield 145, 3) := by decide +kernel
theorem dX5_fillGains_155 : decode cX5_fillGains 155 = .ok (.aload_n 0, 1) := by decide +kernel
theorem dX5_fillGains_156 : decode cX5_fillGains 156 = .ok (.getfield 41, 3) := by decide +kernel
theorem dX5_fillGains_159 : decode cX5_fillGains 159 = .ok (.iload 7, 2) := by decide +kernel
theorem dX5_fillGains_161 : decode cX5_fillGains 161 = .ok (.iaload, 1) := by decide +kernel
theorem dX5_fillGains_162 : decode cX5_fillGains 162 = .ok (.iload 5, 2) := by decide +kernel
theorem dX5_fillGains_164 : decode cX5_fillGains 164 = .ok (.invokevirtual 140, 3) := by decide +kernel
theorem dX5_fillGains_167 : decode cX5_fillGains 167 = .ok (.isub, 1) := by decide +kernel
theorem dX5_fillGains_168 : decode cX5_fillGains 168 = .ok (.iastore, 1) := by decide +kernel
theorem dX5_fillGains_169 : decode cX5_fillGains 169 = .ok (.iinc 5 1, 3) := by decide +kernel
theorem dX5_fillGains_172 : decode cX5_fillGains 172 = .ok (.goto (-135), 3) := by decide +kernel
theorem dX5_fillGains_175 : decode cX5_fillGains 175 = .ok (.iinc 3 1, 3) := by decide +kernel
theorem dX5_fillGains_178 : decode cX5_fillGains 178 = .ok (.goto (-176), 3) := by decide +kernel
theorem dX5_fillGains_181 : decode cX5_fillGains 181 = .ok (.return_, 1) := by decide +kernel
theorem dX5_fillHolding_0 : decode cX5_fillHolding 0 = .ok (.iconst 0, 1) := by decide +kernel
theorem dX5_fillHolding_1 : decode cX5_fillHolding 1 = .ok (.istore_n 2, 1) := by decide +kernel
theorem dX5_fillHolding_2 : decode cX5_fillHolding 2 = .ok (.iload_n 2, 1) := by decide +kernel
theorem dX5_fillHolding_3 : decode cX5_fillHolding 3 = .ok (.bipush 8, 2) := by decide +kernel
theorem dX5_fillHolding_5 : decode cX5_fillHolding 5 = .ok (.if_icmp .gt 125, 3) := by decide +kernel
theorem dX5_fillHolding_8 : decode cX5_fillHolding 8 = .ok (.iconst 0, 1) := by decide +kernel
theorem dX5_fillHolding_9 : decode cX5_fillHolding 9 = .ok (.istore_n 3, 1) := by decide +kernel
theorem dX5_fillHolding_10 : decode cX5_fillHolding 10 = .ok (.iload_n 3, 1) := by decide +kernel
theorem dX5_fillHolding_11 : decode cX5_fillHolding 11 = .ok (.iload_n 2, 1) := by decide +kernel
theorem dX5_fillHolding_12 : decode cX5_fillHolding 12 = .ok (.iadd, 1) := by decide +kernel
theorem dX5_fillHolding_13 : decode cX5_fillHolding 13 = .ok (.bipush 8, 2) := by decide +kernel
theorem dX5_fillHolding_15 : decode cX5_fillHolding 15 = .ok (.if_icmp .gt 109, 3) := by decide +kernel
theorem dX5_fillHolding_18 : decode cX5_fillHolding 18 = .ok (.aload_n 0, 1) := by decide +kernel
theorem dX5_fillHolding_19 : decode cX5_fillHolding 19 = .ok (.getfield 15, 3) := by decide +kernel
theorem dX5_fillHolding_22 : decode cX5_fillHolding 22 = .ok (.getfield 148, 3) := by decide +kernel
theorem dX5_fillHolding_25 : decode cX5_fillHolding 25 = .ok (.bipush 19, 2) := by decide +kernel
theorem dX5_fillHolding_27 : decode cX5_fillHolding 27 = .ok (.iload_n 1, 1) := by decide +kernel
theorem dX5_fillHolding_28 : decode cX5_fillHolding 28 = .ok (.i2l, 1) := by decide +kernel
theorem dX5_fillHolding_29 : decode cX5_fillHolding 29 = .ok (.lastore, 1) := by decide +kernel
theorem dX5_fillHolding_30 : decode cX5_fillHolding 30 = .ok (.aload_n 0, 1) := by decide +kernel
theorem dX5_fillHolding_31 : decode cX5_fillHolding 31 = .ok (.getfield 15, 3) := by decide +kernel
theorem dX5_fillHolding_34 : decode cX5_fillHolding 34 = .ok (.getfield 148, 3) := by decide +kernel
theorem dX5_fillHolding_37 : decode cX5_fillHolding 37 = .ok (.bipush 20, 2) := by decide +kernel
theorem dX5_fillHolding_39 : decode cX5_fillHolding 39 = .ok (.iload_n 2, 1) := by decide +kernel
theorem dX5_fillHolding_40 : decode cX5_fillHolding 40 = .ok (.i2l, 1) := by decide +kernel
theorem dX5_fillHolding_41 : decode cX5_fillHolding 41 = .ok (.lastore, 1) := by decide +kernel
theorem dX5_fillHolding_42 : decode cX5_fillHolding 42 = .ok (.aload_n 0, 1) := by decide +kernel
theorem dX5_fillHolding_43 : decode cX5_fillHolding 43 = .ok (.getfield 15, 3) := by decide +kernel
theorem dX5_fillHolding_46 : decode cX5_fillHolding 46 = .ok (.getfield 148, 3) := by decide +kernel
theorem dX5_fillHolding_49 : decode cX5_fillHolding 49 = .ok (.bipush 21, 2) := by decide +kernel
theorem dX5_fillHolding_51 : decode cX5_fillHolding 51 = .ok (.iload_n 3, 1) := by decide +kernel
theorem dX5_fillHolding_52 : decode cX5_fillHolding 52 = .ok (.i2l, 1) := by decide +kernel
theorem dX5_fillHolding_53 : decode cX5_fillHolding 53 = .ok (.lastore, 1) := by decide +kernel
theorem dX5_fillHolding_54 : decode cX5_fillHolding 54 = .ok (.aload_n 0, 1) := by decide +kernel
theorem dX5_fillHolding_55 : decode cX5_fillHolding 55 = .ok (.getfield 38, 3) := by decide +kernel
theorem dX5_fillHolding_58 : decode cX5_fillHolding 58 = .ok (.iload_n 2, 1) := by decide +kernel
theorem dX5_fillHolding_59 : decode cX5_fillHolding 59 = .ok (.bipush 9, 2) := by decide +kernel
theorem dX5_fillHolding_61 : decode cX5_fillHolding 61 = .ok (.imul, 1) := by decide +kernel
theorem dX5_fillHolding_62 : decode cX5_fillHolding 62 = .ok (.iload_n 3, 1) := by decide +kernel
theorem dX5_fillHolding_63 : decode cX5_fillHolding 63 = .ok (.iadd, 1) := by decide +kernel
theorem dX5_fillHolding_64 : decode cX5_fillHolding 64 = .ok (.aload_n 0, 1) := by decide +kernel
theorem dX5_fillHolding_65 : decode cX5_fillHolding 65 = .ok (.getfield 9, 3) := by decide +kernel
theorem dX5_fillHolding_68 : decode cX5_fillHolding 68 = .ok (.getfield 136, 3) := by decide +kernel
theorem dX5_fillHolding_71 : decode cX5_fillHolding 71 = .ok (.aload_n 0, 1) := by decide +kernel
theorem dX5_fillHolding_72 : decode cX5_fillHolding 72 = .ok (.getfield 9, 3) := by decide +kernel
theorem dX5_fillHolding_75 : decode cX5_fillHolding 75 = .ok (.getfield 52, 3) := by decide +kernel
theorem dX5_fillHolding_78 : decode cX5_fillHolding 78 = .ok (.aload_n 0, 1) := by decide +kernel
theorem dX5_fillHolding_79 : decode cX5_fillHolding 79 = .ok (.getfield 15, 3) := by decide +kernel
theorem dX5_fillHolding_82 : decode cX5_fillHolding 82 = .ok (.invokevirtual 154, 3) := by decide +kernel
theorem dX5_fillHolding_85 : decode cX5_fillHolding 85 = .ok (.iastore, 1) := by decide +kernel
theorem dX5_fillHolding_86 : decode cX5_fillHolding 86 = .ok (.aload_n 0, 1) := by decide +kernel
theorem dX5_fillHolding_87 : decode cX5_fillHolding 87 = .ok (.getfield 41, 3) := by decide +kernel
theorem dX5_fillHolding_90 : decode cX5_fillHolding 90 = .ok (.iload_n 2, 1) := by decide +kernel
theorem dX5_fillHolding_91 : decode cX5_fillHolding 91 = .ok (.bipush 9, 2) := by decide +kernel
theorem dX5_fillHolding_93 : decode cX5_fillHolding 93 = .ok (.imul, 1) := by decide +kernel
theorem dX5_fillHolding_94 : decode cX5_fillHolding 94 = .ok (.iload_n 3, 1) := by decide +kernel
theorem dX5_fillHolding_95 : decode cX5_fillHolding 95 = .ok (.iadd, 1) := by decide +kernel
theorem dX5_fillHolding_96 : decode cX5_fillHolding 96 = .ok (.aload_n 0, 1) := by decide +kernel
theorem dX5_fillHolding_97 : decode cX5_fillHolding 97 = .ok (.getfield 9, 3) := by decide +kernel
theorem dX5_fillHolding_100 : decode cX5_fillHolding 100 = .ok (.getfield 145, 3) := by decide +kernel
theorem dX5_fillHolding_103 : decode cX5_fillHolding 103 = .ok (.aload_n 0, 1) := by decide +kernel
theorem dX5_fillHolding_104 : decode cX5_fillHolding 104 = .ok (.getfield 9, 3) := by decide +kernel
theorem dX5_fillHolding_107 : decode cX5_fillHolding 107 = .ok (.getfield 52, 3) := by decide +kernel
theorem dX5_fillHolding_110 : decode cX5_fillHolding 110 = .ok (.aload_n 0, 1) := by decide +kernel
theorem dX5_fillHolding_111 : decode cX5_fillHolding 111 = .ok (.getfield 15, 3) := by decide +kernel
theorem dX5_fillHolding_114 : decode cX5_fillHolding 114 = .ok (.invokevirtual 154, 3) := by decide +kernel
theorem dX5_fillHolding_117 : decode cX5_fillHolding 117 = .ok (.iastore, 1) := by decide +kernel
theorem dX5_fillHolding_118 : decode cX5_fillHolding 118 = .ok (.iinc 3 1, 3) := by decide +kernel
theorem dX5_fillHolding_121 : decode cX5_fillHolding 121 = .ok (.goto (-111), 3) := by decide +kernel
theorem dX5_fillHolding_124 : decode cX5_fillHolding 124 = .ok (.iinc 2 1, 3) := by decide +kernel
theorem dX5_fillHolding_127 : decode cX5_fillHolding 127 = .ok (.goto (-125), 3) := by decide +kernel
theorem dX5_fillHolding_130 : decode cX5_fillHolding 130 = .ok (.return_, 1) := by decide +kernel
theorem dX5_start_0 : decode cX5_start 0 = .ok (.iconst 0, 1) := by decide +kernel
theorem dX5_start_1 : decode cX5_start 1 = .ok (.istore_n 3, 1) := by decide +kernel
theorem dX5_start_2 : decode cX5_start 2 = .ok (.iload_n 3, 1) := by decide +kernel
theorem dX5_start_3 : decode cX5_start 3 = .ok (.aload_n 0, 1) := by decide +kernel
theorem dX5_start_4 : decode cX5_start 4 = .ok (.arraylength, 1) := by decide +kernel
theorem dX5_start_5 : decode cX5_start 5 = .ok (.if_icmp .ge 22, 3) := by decide +kernel
theorem dX5_start_8 : decode cX5_start 8 = .ok (.aload_n 0, 1) := by decide +kernel
theorem dX5_start_9 : decode cX5_start 9 = .ok (.iload_n 3, 1) := by decide +kernel
theorem dX5_start_10 : decode cX5_start 10 = .ok (.iload_n 3, 1) := by decide +kernel
theorem dX5_start_11 : decode cX5_start 11 = .ok (.iload_n 1, 1) := by decide +kernel
theorem dX5_start_12 : decode cX5_start 12 = .ok (.if_icmp .ne 7, 3) := by decide +kernel
theorem dX5_start_15 : decode cX5_start 15 = .ok (.iload_n 2, 1) := by decide +kernel
theorem dX5_start_16 : decode cX5_start 16 = .ok (.goto 4, 3) := by decide +kernel
theorem dX5_start_19 : decode cX5_start 19 = .ok (.iconst (-1), 1) := by decide +kernel
theorem dX5_start_20 : decode cX5_start 20 = .ok (.iastore, 1) := by decide +kernel
theorem dX5_start_21 : decode cX5_start 21 = .ok (.iinc 3 1, 3) := by decide +kernel
theorem dX5_start_24 : decode cX5_start 24 = .ok (.goto (-22), 3) := by decide +kernel
theorem dX5_start_27 : decode cX5_start 27 = .ok (.return_, 1) := by decide +kernel
theorem dX5_pass_0 : decode cX5_pass 0 = .ok (.aload_n 0, 1) := by decide +kernel
theorem dX5_pass_1 : decode cX5_pass 1 = .ok (.getfield 9, 3) := by decide +kernel
theorem dX5_pass_4 : decode cX5_pass 4 = .ok (.getfield 111, 3) := by decide +kernel
theorem dX5_pass_7 : decode cX5_pass 7 = .ok (.aload_n 0, 1) := by decide +kernel
theorem dX5_pass_8 : decode cX5_pass 8 = .ok (.getfield 9, 3) := by decide +kernel
theorem dX5_pass_11 : decode cX5_pass 11 = .ok (.iload_n 2, 1) := by decide +kernel
theorem dX5_pass_12 : decode cX5_pass 12 = .ok (.invokevirtual 118, 3) := by decide +kernel
theorem dX5_pass_15 : decode cX5_pass 15 = .ok (.iconst (-1), 1) := by decide +kernel
theorem dX5_pass_16 : decode cX5_pass 16 = .ok (.ixor, 1) := by decide +kernel
theorem dX5_pass_17 : decode cX5_pass 17 = .ok (.iand, 1) := by decide +kernel
theorem dX5_pass_18 : decode cX5_pass 18 = .ok (.iload_n 3, 1) := by decide +kernel
theorem dX5_pass_19 : decode cX5_pass 19 = .ok (.iconst (-1), 1) := by decide +kernel
theorem dX5_pass_20 : decode cX5_pass 20 = .ok (.ixor, 1) := by decide +kernel
theorem dX5_pass_21 : decode cX5_pass 21 = .ok (.iand, 1) := by decide +kernel
theorem dX5_pass_22 : decode cX5_pass 22 = .ok (.istore 5, 2) := by decide +kernel
theorem dX5_pass_24 : decode cX5_pass 24 = .ok (.iconst 0, 1) := by decide +kernel
theorem dX5_pass_25 : decode cX5_pass 25 = .ok (.istore 6, 2) := by decide +kernel
theorem dX5_pass_27 : decode cX5_pass 27 = .ok (.iload 6, 2) := by decide +kernel
theorem dX5_pass_29 : decode cX5_pass 29 = .ok (.bipush 8, 2) := by decide +kernel
theorem dX5_pass_31 : decode cX5_pass 31 = .ok (.if_icmp .ge 38, 3) := by decide +kernel
theorem dX5_pass_34 : decode cX5_pass 34 = .ok (.iload 5, 2) := by decide +kernel
theorem dX5_pass_36 : decode cX5_pass 36 = .ok (.iload 6, 2) := by decide +kernel
theorem dX5_pass_38 : decode cX5_pass 38 = .ok (.ishr, 1) := by decide +kernel
theorem dX5_pass_39 : decode cX5_pass 39 = .ok (.iconst 1, 1) := by decide +kernel
theorem dX5_pass_40 : decode cX5_pass 40 = .ok (.iand, 1) := by decide +kernel
theorem dX5_pass_41 : decode cX5_pass 41 = .ok (.ifCond .eq 22, 3) := by decide +kernel
theorem dX5_pass_44 : decode cX5_pass 44 = .ok (.aload_n 0, 1) := by decide +kernel
theorem dX5_pass_45 : decode cX5_pass 45 = .ok (.aload_n 1, 1) := by decide +kernel
theorem dX5_pass_46 : decode cX5_pass 46 = .ok (.iconst 1, 1) := by decide +kernel
theorem dX5_pass_47 : decode cX5_pass 47 = .ok (.iload 6, 2) := by decide +kernel
theorem dX5_pass_49 : decode cX5_pass 49 = .ok (.ishl, 1) := by decide +kernel
theorem dX5_pass_50 : decode cX5_pass 50 = .ok (.aload_n 0, 1) := by decide +kernel
theorem dX5_pass_51 : decode cX5_pass 51 = .ok (.getfield 9, 3) := by decide +kernel
theorem dX5_pass_54 : decode cX5_pass 54 = .ok (.iload 6, 2) := by decide +kernel
theorem dX5_pass_56 : decode cX5_pass 56 = .ok (.iload_n 2, 1) := by decide +kernel
theorem dX5_pass_57 : decode cX5_pass 57 = .ok (.invokevirtual 158, 3) := by decide +kernel
theorem dX5_pass_60 : decode cX5_pass 60 = .ok (.invokevirtual 161, 3) := by decide +kernel
theorem dX5_pass_63 : decode cX5_pass 63 = .ok (.iinc 6 1, 3) := by decide +kernel
theorem dX5_pass_66 : decode cX5_pass 66 = .ok (.goto (-39), 3) := by decide +kernel
theorem dX5_pass_69 : decode cX5_pass 69 = .ok (.iload_n 2, 1) := by decide +kernel
theorem dX5_pass_70 : decode cX5_pass 70 = .ok (.sipush 256, 3) := by decide +kernel
theorem dX5_pass_73 : decode cX5_pass 73 = .ok (.imul, 1) := by decide +kernel
theorem dX5_pass_74 : decode cX5_pass 74 = .ok (.istore 6, 2) := by decide +kernel
theorem dX5_pass_76 : decode cX5_pass 76 = .ok (.iconst 0, 1) := by decide +kernel
theorem dX5_pass_77 : decode cX5_pass 77 = .ok (.istore 7, 2) := by decide +kernel
theorem dX5_pass_79 : decode cX5_pass 79 = .ok (.iload 7, 2) := by decide +kernel
theorem dX5_pass_81 : decode cX5_pass 81 = .ok (.aload_n 0, 1) := by decide +kernel
theorem dX5_pass_82 : decode cX5_pass 82 = .ok (.getfield 9, 3) := by decide +kernel
theorem dX5_pass_85 : decode cX5_pass 85 = .ok (.getfield 111, 3) := by decide +kernel
theorem dX5_pass_88 : decode cX5_pass 88 = .ok (.if_icmp .gt 56, 3) := by decide +kernel
theorem dX5_pass_91 : decode cX5_pass 91 = .ok (.iload 7, 2) := by decide +kernel
theorem dX5_pass_93 : decode cX5_pass 93 = .ok (.sipush 256, 3) := by decide +kernel
theorem dX5_pass_96 : decode cX5_pass 96 = .ok (.if_icmp .ge 48, 3) := by decide +kernel
theorem dX5_pass_99 : decode cX5_pass 99 = .ok (.iload 6, 2) := by decide +kernel
theorem dX5_pass_101 : decode cX5_pass 101 = .ok (.iload 7, 2) := by decide +kernel
theorem dX5_pass_103 : decode cX5_pass 103 = .ok (.iadd, 1) := by decide +kernel
theorem dX5_pass_104 : decode cX5_pass 104 = .ok (.aload 4, 2) := by decide +kernel
theorem dX5_pass_106 : decode cX5_pass 106 = .ok (.arraylength, 1) := by decide +kernel
theorem dX5_pass_107 : decode cX5_pass 107 = .ok (.if_icmp .ge 37, 3) := by decide +kernel
theorem dX5_pass_110 : decode cX5_pass 110 = .ok (.aload_n 1, 1) := by decide +kernel
theorem dX5_pass_111 : decode cX5_pass 111 = .ok (.iload 7, 2) := by decide +kernel
theorem dX5_pass_113 : decode cX5_pass 113 = .ok (.iaload, 1) := by decide +kernel
theorem dX5_pass_114 : decode cX5_pass 114 = .ok (.ifCond .lt 24, 3) := by decide +kernel
theorem dX5_pass_117 : decode cX5_pass 117 = .ok (.aload_n 1, 1) := by decide +kernel
theorem dX5_pass_118 : decode cX5_pass 118 = .ok (.iload 7, 2) := by decide +kernel
theorem dX5_pass_120 : decode cX5_pass 120 = .ok (.iconst (-1), 1) := by decide +kernel
theorem dX5_pass_121 : decode cX5_pass 121 = .ok (.aload_n 1, 1) := by decide +kernel
theorem dX5_pass_122 : decode cX5_pass 122 = .ok (.iload 7, 2) := by decide +kernel
theorem dX5_pass_124 : decode cX5_pass 124 = .ok (.iaload, 1) := by decide +kernel
theorem dX5_pass_125 : decode cX5_pass 125 = .ok (.aload 4, 2) := by decide +kernel
theorem dX5_pass_127 : decode cX5_pass 127 = .ok (.iload 6, 2) := by decide +kernel
theorem dX5_pass_129 : decode cX5_pass 129 = .ok (.iload 7, 2) := by decide +kernel
theorem dX5_pass_131 : decode cX5_pass 131 = .ok (.iadd, 1) := by decide +kernel
theorem dX5_pass_132 : decode cX5_pass 132 = .ok (.iaload, 1) := by decide +kernel
theorem dX5_pass_133 : decode cX5_pass 133 = .ok (.iadd, 1) := by decide +kernel
theorem dX5_pass_134 : decode cX5_pass 134 = .ok (.invokestatic 127, 3) := by decide +kernel
theorem dX5_pass_137 : decode cX5_pass 137 = .ok (.iastore, 1) := by decide +kernel
theorem dX5_pass_138 : decode cX5_pass 138 = .ok (.iinc 7 1, 3) := by decide +kernel
theorem dX5_pass_141 : decode cX5_pass 141 = .ok (.goto (-62), 3) := by decide +kernel
theorem dX5_pass_144 : decode cX5_pass 144 = .ok (.return_, 1) := by decide +kernel
theorem dX5_fetchAnywhere_0 : decode cX5_fetchAnywhere 0 = .ok (.iconst 0, 1) := by decide +kernel
theorem dX5_fetchAnywhere_1 : decode cX5_fetchAnywhere 1 = .ok (.istore 4, 2) := by decide +kernel
theorem dX5_fetchAnywhere_3 : decode cX5_fetchAnywhere 3 = .ok (.iload 4, 2) := by decide +kernel
theorem dX5_fetchAnywhere_5 : decode cX5_fetchAnywhere 5 = .ok (.aload_n 0, 1) := by decide +kernel
theorem dX5_fetchAnywhere_6 : decode cX5_fetchAnywhere 6 = .ok (.getfield 9, 3) := by decide +kernel
theorem dX5_fetchAnywhere_9 : decode cX5_fetchAnywhere 9 = .ok (.getfield 111, 3) := by decide +kernel
theorem dX5_fetchAnywhere_12 : decode cX5_fetchAnywhere 12 = .ok (.if_icmp .gt 63, 3) := by decide +kernel
theorem dX5_fetchAnywhere_15 : decode cX5_fetchAnywhere 15 = .ok (.iload 4, 2) := by decide +kernel
theorem dX5_fetchAnywhere_17 : decode cX5_fetchAnywhere 17 = .ok (.sipush 256, 3) := by decide +kernel
theorem dX5_fetchAnywhere_20 : decode cX5_fetchAnywhere 20 = .ok (.if_icmp .ge 55, 3) := by decide +kernel
theorem dX5_fetchAnywhere_23 : decode cX5_fetchAnywhere 23 = .ok (.iload 4, 2) := by decide +kernel
theorem dX5_fetchAnywhere_25 : decode cX5_fetchAnywhere 25 = .ok (.iload_n 2, 1) := by decide +kernel
theorem dX5_fetchAnywhere_26 : decode cX5_fetchAnywhere 26 = .ok (.ior, 1) := by decide +kernel
theorem dX5_fetchAnywhere_27 : decode cX5_fetchAnywhere 27 = .ok (.istore 5, 2) := by decide +kernel
theorem dX5_fetchAnywhere_29 : decode cX5_fetchAnywhere 29 = .ok (.iload 5, 2) := by decide +kernel
theorem dX5_fetchAnywhere_31 : decode cX5_fetchAnywhere 31 = .ok (.iload 4, 2) := by decide +kernel
theorem dX5_fetchAnywhere_33 : decode cX5_fetchAnywhere 33 = .ok (.if_icmp .eq 36, 3) := by decide +kernel
theorem dX5_fetchAnywhere_36 : decode cX5_fetchAnywhere 36 = .ok (.iload 5, 2) := by decide +kernel
theorem dX5_fetchAnywhere_38 : decode cX5_fetchAnywhere 38 = .ok (.sipush 256, 3) := by decide +kernel
theorem dX5_fetchAnywhere_41 : decode cX5_fetchAnywhere 41 = .ok (.if_icmp .ge 28, 3) := by decide +kernel
theorem dX5_fetchAnywhere_44 : decode cX5_fetchAnywhere 44 = .ok (.aload_n 1, 1) := by decide +kernel
theorem dX5_fetchAnywhere_45 : decode cX5_fetchAnywhere 45 = .ok (.iload 4, 2) := by decide +kernel
theorem dX5_fetchAnywhere_47 : decode cX5_fetchAnywhere 47 = .ok (.iaload, 1) := by decide +kernel
theorem dX5_fetchAnywhere_48 : decode cX5_fetchAnywhere 48 = .ok (.iload_n 3, 1) := by decide +kernel
theorem dX5_fetchAnywhere_49 : decode cX5_fetchAnywhere 49 = .ok (.if_icmp .lt 20, 3) := by decide +kernel
theorem dX5_fetchAnywhere_52 : decode cX5_fetchAnywhere 52 = .ok (.aload_n 1, 1) := by decide +kernel
theorem dX5_fetchAnywhere_53 : decode cX5_fetchAnywhere 53 = .ok (.iload 5, 2) := by decide +kernel
theorem dX5_fetchAnywhere_55 : decode cX5_fetchAnywhere 55 = .ok (.aload_n 1, 1) := by decide +kernel
theorem dX5_fetchAnywhere_56 : decode cX5_fetchAnywhere 56 = .ok (.iload 5, 2) := by decide +kernel
theorem dX5_fetchAnywhere_58 : decode cX5_fetchAnywhere 58 = .ok (.iaload, 1) := by decide +kernel
theorem dX5_fetchAnywhere_59 : decode cX5_fetchAnywhere 59 = .ok (.aload_n 1, 1) := by decide +kernel
theorem dX5_fetchAnywhere_60 : decode cX5_fetchAnywhere 60 = .ok (.iload 4, 2) := by decide +kernel
theorem dX5_fetchAnywhere_62 : decode cX5_fetchAnywhere 62 = .ok (.iaload, 1) := by decide +kernel
theorem dX5_fetchAnywhere_63 : decode cX5_fetchAnywhere 63 = .ok (.iload_n 3, 1) := by decide +kernel
theorem dX5_fetchAnywhere_64 : decode cX5_fetchAnywhere 64 = .ok (.isub, 1) := by decide +kernel
theorem dX5_fetchAnywhere_65 : decode cX5_fetchAnywhere 65 = .ok (.invokestatic 127, 3) := by decide +kernel
theorem dX5_fetchAnywhere_68 : decode cX5_fetchAnywhere 68 = .ok (.iastore, 1) := by decide +kernel
theorem dX5_fetchAnywhere_69 : decode cX5_fetchAnywhere 69 = .ok (.iinc 4 1, 3) := by decide +kernel
theorem dX5_fetchAnywhere_72 : decode cX5_fetchAnywhere 72 = .ok (.goto (-69), 3) := by decide +kernel
theorem dX5_fetchAnywhere_75 : decode cX5_fetchAnywhere 75 = .ok (.return_, 1) := by decide +kernel
theorem dX5_shift_0 : decode cX5_shift 0 = .ok (.iconst 0, 1) := by decide +kernel
theorem dX5_shift_1 : decode cX5_shift 1 = .ok (.istore_n 2, 1) := by decide +kernel
theorem dX5_shift_2 : decode cX5_shift 2 = .ok (.iload_n 2, 1) := by decide +kernel
theorem dX5_shift_3 : decode cX5_shift 3 = .ok (.aload_n 0, 1) := by decide +kernel
theorem dX5_shift_4 : decode cX5_shift 4 = .ok (.arraylength, 1) := by decide +kernel
theorem dX5_shift_5 : decode cX5_shift 5 = .ok (.if_icmp .ge 27, 3) := by decide +kernel
theorem dX5_shift_8 : decode cX5_shift 8 = .ok (.aload_n 0, 1) := by decide +kernel
theorem dX5_shift_9 : decode cX5_shift 9 = .ok (.iload_n 2, 1) := by decide +kernel
theorem dX5_shift_10 : decode cX5_shift 10 = .ok (.iaload, 1) := by decide +kernel
theorem dX5_shift_11 : decode cX5_shift 11 = .ok (.ifCond .lt 15, 3) := by decide +kernel
theorem dX5_shift_14 : decode cX5_shift 14 = .ok (.aload_n 0, 1) := by decide +kernel
theorem dX5_shift_15 : decode cX5_shift 15 = .ok (.iload_n 2, 1) := by decide +kernel
theorem dX5_shift_16 : decode cX5_shift 16 = .ok (.iconst (-1), 1) := by decide +kernel
theorem dX5_shift_17 : decode cX5_shift 17 = .ok (.aload_n 0, 1) := by decide +kernel
theorem dX5_shift_18 : decode cX5_shift 18 = .ok (.iload_n 2, 1) := by decide +kernel
theorem dX5_shift_19 : decode cX5_shift 19 = .ok (.iaload, 1) := by decide +kernel
theorem dX5_shift_20 : decode cX5_shift 20 = .ok (.iload_n 1, 1) := by decide +kernel
theorem dX5_shift_21 : decode cX5_shift 21 = .ok (.iadd, 1) := by decide +kernel
theorem dX5_shift_22 : decode cX5_shift 22 = .ok (.invokestatic 127, 3) := by decide +kernel
theorem dX5_shift_25 : decode cX5_shift 25 = .ok (.iastore, 1) := by decide +kernel
theorem dX5_shift_26 : decode cX5_shift 26 = .ok (.iinc 2 1, 3) := by decide +kernel
theorem dX5_shift_29 : decode cX5_shift 29 = .ok (.goto (-27), 3) := by decide +kernel
theorem dX5_shift_32 : decode cX5_shift 32 = .ok (.return_, 1) := by decide +kernel
theorem dX5_mostIn_0 : decode cX5_mostIn 0 = .ok (.iconst (-1), 1) := by decide +kernel
theorem dX5_mostIn_1 : decode cX5_mostIn 1 = .ok (.istore_n 1, 1) := by decide +kernel
theorem dX5_mostIn_2 : decode cX5_mostIn 2 = .ok (.iconst 0, 1) := by decide +kernel
theorem dX5_mostIn_3 : decode cX5_mostIn 3 = .ok (.istore_n 2, 1) := by decide +kernel
theorem dX5_mostIn_4 : decode cX5_mostIn 4 = .ok (.iload_n 2, 1) := by decide +kernel
theorem dX5_mostIn_5 : decode cX5_mostIn 5 = .ok (.aload_n 0, 1) := by decide +kernel
theorem dX5_mostIn_6 : decode cX5_mostIn 6 = .ok (.arraylength, 1) := by decide +kernel
theorem dX5_mostIn_7 : decode cX5_mostIn 7 = .ok (.if_icmp .ge 17, 3) := by decide +kernel
theorem dX5_mostIn_10 : decode cX5_mostIn 10 = .ok (.iload_n 1, 1) := by decide +kernel
theorem dX5_mostIn_11 : decode cX5_mostIn 11 = .ok (.aload_n 0, 1) := by decide +kernel
theorem dX5_mostIn_12 : decode cX5_mostIn 12 = .ok (.iload_n 2, 1) := by decide +kernel
theorem dX5_mostIn_13 : decode cX5_mostIn 13 = .ok (.iaload, 1) := by decide +kernel
theorem dX5_mostIn_14 : decode cX5_mostIn 14 = .ok (.invokestatic 127, 3) := by decide +kernel
theorem dX5_mostIn_17 : decode cX5_mostIn 17 = .ok (.istore_n 1, 1) := by decide +kernel
theorem dX5_mostIn_18 : decode cX5_mostIn 18 = .ok (.iinc 2 1, 3) := by decide +kernel
theorem dX5_mostIn_21 : decode cX5_mostIn 21 = .ok (.goto (-17), 3) := by decide +kernel
theorem dX5_mostIn_24 : decode cX5_mostIn 24 = .ok (.iload_n 1, 1) := by decide +kernel
theorem dX5_mostIn_25 : decode cX5_mostIn 25 = .ok (.ireturn, 1) := by decide +kernel
theorem dX5_coinAt_0 : decode cX5_coinAt 0 = .ok (.iload_n 1, 1) := by decide +kernel
theorem dX5_coinAt_1 : decode cX5_coinAt 1 = .ok (.ifCond .lt 35, 3) := by decide +kernel
theorem dX5_coinAt_4 : decode cX5_coinAt 4 = .ok (.iload_n 1, 1) := by decide +kernel
theorem dX5_coinAt_5 : decode cX5_coinAt 5 = .ok (.bipush 60, 2) := by decide +kernel
theorem dX5_coinAt_7 : decode cX5_coinAt 7 = .ok (.if_icmp .ge 29, 3) := by decide +kernel
theorem dX5_coinAt_10 : decode cX5_coinAt 10 = .ok (.iload_n 2, 1) := by decide +kernel
theorem dX5_coinAt_11 : decode cX5_coinAt 11 = .ok (.ifCond .lt 25, 3) := by decide +kernel
theorem dX5_coinAt_14 : decode cX5_coinAt 14 = .ok (.iload_n 2, 1) := by decide +kernel
theorem dX5_coinAt_15 : decode cX5_coinAt 15 = .ok (.sipush 256, 3) := by decide +kernel
theorem dX5_coinAt_18 : decode cX5_coinAt 18 = .ok (.if_icmp .ge 18, 3) := by decide +kernel
theorem dX5_coinAt_21 : decode cX5_coinAt 21 = .ok (.aload_n 0, 1) := by decide +kernel
theorem dX5_coinAt_22 : decode cX5_coinAt 22 = .ok (.getfield 23, 3) := by decide +kernel
theorem dX5_coinAt_25 : decode cX5_coinAt 25 = .ok (.iload_n 1, 1) := by decide +kernel
theorem dX5_coinAt_26 : decode cX5_coinAt 26 = .ok (.sipush 256, 3) := by decide +kernel
theorem dX5_coinAt_29 : decode cX5_coinAt 29 = .ok (.imul, 1) := by decide +kernel
theorem dX5_coinAt_30 : decode cX5_coinAt 30 = .ok (.iload_n 2, 1) := by decide +kernel
theorem dX5_coinAt_31 : decode cX5_coinAt 31 = .ok (.iadd, 1) := by decide +kernel
theorem dX5_coinAt_32 : decode cX5_coinAt 32 = .ok (.iaload, 1) := by decide +kernel
theorem dX5_coinAt_33 : decode cX5_coinAt 33 = .ok (.goto 4, 3) := by decide +kernel
theorem dX5_coinAt_36 : decode cX5_coinAt 36 = .ok (.iconst (-1), 1) := by decide +kernel
theorem dX5_coinAt_37 : decode cX5_coinAt 37 = .ok (.ireturn, 1) := by decide +kernel
theorem dX5_tracePlan_0 : decode cX5_tracePlan 0 = .ok (.iconst 0, 1) := by decide +kernel
theorem dX5_tracePlan_1 : decode cX5_tracePlan 1 = .ok (.istore_n 1, 1) := by decide +kernel
theorem dX5_tracePlan_2 : decode cX5_tracePlan 2 = .ok (.iload_n 1, 1) := by decide +kernel
theorem dX5_tracePlan_3 : decode cX5_tracePlan 3 = .ok (.bipush 8, 2) := by decide +kernel
theorem dX5_tracePlan_5 : decode cX5_tracePlan 5 = .ok (.if_icmp .ge 16, 3) := by decide +kernel
theorem dX5_tracePlan_8 : decode cX5_tracePlan 8 = .ok (.aload_n 0, 1) := by decide +kernel
theorem dX5_tracePlan_9 : decode cX5_tracePlan 9 = .ok (.getfield 19, 3) := by decide +kernel
theorem dX5_tracePlan_12 : decode cX5_tracePlan 12 = .ok (.iload_n 1, 1) := by decide +kernel
theorem dX5_tracePlan_13 : decode cX5_tracePlan 13 = .ok (.iconst (-1), 1) := by decide +kernel
theorem dX5_tracePlan_14 : decode cX5_tracePlan 14 = .ok (.iastore, 1) := by decide +kernel
theorem dX5_tracePlan_15 : decode cX5_tracePlan 15 = .ok (.iinc 1 1, 3) := by decide +kernel
theorem dX5_tracePlan_18 : decode cX5_tracePlan 18 = .ok (.goto (-16), 3) := by decide +kernel
theorem dX5_tracePlan_21 : decode cX5_tracePlan 21 = .ok (.aload_n 0, 1) := by decide +kernel
theorem dX5_tracePlan_22 : decode cX5_tracePlan 22 = .ok (.getfield 98, 3) := by decide +kernel
theorem dX5_tracePlan_25 : decode cX5_tracePlan 25 = .ok (.ifCond .ge 4, 3) := by decide +kernel
theorem dX5_tracePlan_28 : decode cX5_tracePlan 28 = .ok (.return_, 1) := by decide +kernel
theorem dX5_tracePlan_29 : decode cX5_tracePlan 29 = .ok (.aload_n 0, 1) := by decide +kernel
theorem dX5_tracePlan_30 : decode cX5_tracePlan 30 = .ok (.getfield 105, 3) := by decide +kernel
theorem dX5_tracePlan_33 : decode cX5_tracePlan 33 = .ok (.istore_n 1, 1) := by decide +kernel
theorem dX5_tracePlan_34 : decode cX5_tracePlan 34 = .ok (.aload_n 0, 1) := by decide +kernel
theorem dX5_tracePlan_35 : decode cX5_tracePlan 35 = .ok (.getfield 9, 3) := by decide +kernel
theorem dX5_tracePlan_38 : decode cX5_tracePlan 38 = .ok (.getfield 78, 3) := by decide +kernel
theorem dX5_tracePlan_41 : decode cX5_tracePlan 41 = .ok (.bipush 60, 2) := by decide +kernel
theorem dX5_tracePlan_43 : decode cX5_tracePlan 43 = .ok (.invokestatic 164, 3) := by decide +kernel
theorem dX5_tracePlan_46 : decode cX5_tracePlan 46 = .ok (.iconst 1, 1) := by decide +kernel
theorem dX5_tracePlan_47 : decode cX5_tracePlan 47 = .ok (.isub, 1) := by decide +kernel
theorem dX5_tracePlan_48 : decode cX5_tracePlan 48 = .ok (.istore_n 2, 1) := by decide +kernel
theorem dX5_tracePlan_49 : decode cX5_tracePlan 49 = .ok (.iload_n 2, 1) := by decide +kernel
theorem dX5_tracePlan_50 : decode cX5_tracePlan 50 = .ok (.ifCond .lt 67, 3) := by decide +kernel
theorem dX5_tracePlan_53 : decode cX5_tracePlan 53 = .ok (.iload_n 2, 1) := by decide +kernel
theorem dX5_tracePlan_54 : decode cX5_tracePlan 54 = .ok (.ifCond .ne 7, 3) := by decide +kernel
theorem dX5_tracePlan_57 : decode cX5_tracePlan 57 = .ok (.iconst 0, 1) := by decide +kernel
theorem dX5_tracePlan_58 : decode cX5_tracePlan 58 = .ok (.goto 9, 3) := by decide +kernel
theorem dX5_tracePlan_61 : decode cX5_tracePlan 61 = .ok (.aload_n 0, 1) := by decide +kernel
theorem dX5_tracePlan_62 : decode cX5_tracePlan 62 = .ok (.iload_n 2, 1) := by decide +kernel
theorem dX5_tracePlan_63 : decode cX5_tracePlan 63 = .ok (.iload_n 1, 1) := by decide +kernel
theorem dX5_tracePlan_64 : decode cX5_tracePlan 64 = .ok (.invokevirtual 167, 3) := by decide +kernel
theorem dX5_tracePlan_67 : decode cX5_tracePlan 67 = .ok (.istore_n 3, 1) := by decide +kernel
theorem dX5_tracePlan_68 : decode cX5_tracePlan 68 = .ok (.iload_n 1, 1) := by decide +kernel
theorem dX5_tracePlan_69 : decode cX5_tracePlan 69 = .ok (.iload_n 3, 1) := by decide +kernel
theorem dX5_tracePlan_70 : decode cX5_tracePlan 70 = .ok (.iconst (-1), 1) := by decide +kernel
theorem dX5_tracePlan_71 : decode cX5_tracePlan 71 = .ok (.ixor, 1) := by decide +kernel
theorem dX5_tracePlan_72 : decode cX5_tracePlan 72 = .ok (.iand, 1) := by decide +kernel
theorem dX5_tracePlan_73 : decode cX5_tracePlan 73 = .ok (.istore 4, 2) := by decide +kernel
theorem dX5_tracePlan_75 : decode cX5_tracePlan 75 = .ok (.iconst 0, 1) := by decide +kernel
theorem dX5_tracePlan_76 : decode cX5_tracePlan 76 = .ok (.istore 5, 2) := by decide +kernel
theorem dX5_tracePlan_78 : decode cX5_tracePlan 78 = .ok (.iload 5, 2) := by decide +kernel
theorem dX5_tracePlan_80 : decode cX5_tracePlan 80 = .ok (.bipush 8, 2) := by decide +kernel
theorem dX5_tracePlan_82 : decode cX5_tracePlan 82 = .ok (.if_icmp .ge 27, 3) := by decide +kernel
theorem dX5_tracePlan_85 : decode cX5_tracePlan 85 = .ok (.iload 4, 2) := by decide +kernel
theorem dX5_tracePlan_87 : decode cX5_tracePlan 87 = .ok (.iload 5, 2) := by decide +kernel
theorem dX5_tracePlan_89 : decode cX5_tracePlan 89 = .ok (.ishr, 1) := by decide +kernel
theorem dX5_tracePlan_90 : decode cX5_tracePlan 90 = .ok (.iconst 1, 1) := by decide +kernel
theorem dX5_tracePlan_91 : decode cX5_tracePlan 91 = .ok (.iand, 1) := by decide +kernel
theorem dX5_tracePlan_92 : decode cX5_tracePlan 92 = .ok (.ifCond .eq 11, 3) := by decide +kernel
theorem dX5_tracePlan_95 : decode cX5_tracePlan 95 = .ok (.aload_n 0, 1) := by decide +kernel
theorem dX5_tracePlan_96 : decode cX5_tracePlan 96 = .ok (.getfield 19, 3) := by decide +kernel
theorem dX5_tracePlan_99 : decode cX5_tracePlan 99 = .ok (.iload 5, 2) := by decide +kernel
theorem dX5_tracePlan_101 : decode cX5_tracePlan 101 = .ok (.iload_n 2, 1) := by decide +kernel
theorem dX5_tracePlan_102 : decode cX5_tracePlan 102 = .ok (.iastore, 1) := by decide +kernel
theorem dX5_tracePlan_103 : decode cX5_tracePlan 103 = .ok (.iinc 5 1, 3) := by decide +kernel
theorem dX5_tracePlan_106 : decode cX5_tracePlan 106 = .ok (.goto (-28), 3) := by decide +kernel
theorem dX5_tracePlan_109 : decode cX5_tracePlan 109 = .ok (.iload_n 3, 1) := by decide +kernel
theorem dX5_tracePlan_110 : decode cX5_tracePlan 110 = .ok (.istore_n 1, 1) := by decide +kernel
theorem dX5_tracePlan_111 : decode cX5_tracePlan 111 = .ok (.iinc 2 (-1), 3) := by decide +kernel
theorem dX5_tracePlan_114 : decode cX5_tracePlan 114 = .ok (.goto (-65), 3) := by decide +kernel
theorem dX5_tracePlan_117 : decode cX5_tracePlan 117 = .ok (.return_, 1) := by decide +kernel
theorem dX5_setAhead_0 : decode cX5_setAhead 0 = .ok (.aload_n 0, 1) := by decide +kernel
theorem dX5_setAhead_1 : decode cX5_setAhead 1 = .ok (.getfield 9, 3) := by decide +kernel
theorem dX5_setAhead_4 : decode cX5_setAhead 4 = .ok (.getfield 111, 3) := by decide +kernel
theorem dX5_setAhead_7 : decode cX5_setAhead 7 = .ok (.aload_n 0, 1) := by decide +kernel
theorem dX5_setAhead_8 : decode cX5_setAhead 8 = .ok (.getfield 9, 3) := by decide +kernel
theorem dX5_setAhead_11 : decode cX5_setAhead 11 = .ok (.iload_n 1, 1) := by decide +kernel
theorem dX5_setAhead_12 : decode cX5_setAhead 12 = .ok (.invokevirtual 118, 3) := by decide +kernel
theorem dX5_setAhead_15 : decode cX5_setAhead 15 = .ok (.iconst (-1), 1) := by decide +kernel
theorem dX5_setAhead_16 : decode cX5_setAhead 16 = .ok (.ixor, 1) := by decide +kernel
theorem dX5_setAhead_17 : decode cX5_setAhead 17 = .ok (.iand, 1) := by decide +kernel
theorem dX5_setAhead_18 : decode cX5_setAhead 18 = .ok (.istore_n 3, 1) := by decide +kernel
theorem dX5_setAhead_19 : decode cX5_setAhead 19 = .ok (.aload_n 0, 1) := by decide +kernel
theorem dX5_setAhead_20 : decode cX5_setAhead 20 = .ok (.iload_n 1, 1) := by decide +kernel
theorem dX5_setAhead_21 : decode cX5_setAhead 21 = .ok (.iload_n 2, 1) := by decide +kernel
theorem dX5_setAhead_22 : decode cX5_setAhead 22 = .ok (.invokevirtual 170, 3) := by decide +kernel
theorem dX5_setAhead_25 : decode cX5_setAhead 25 = .ok (.aload_n 0, 1) := by decide +kernel
theorem dX5_setAhead_26 : decode cX5_setAhead 26 = .ok (.getfield 26, 3) := by decide +kernel
theorem dX5_setAhead_29 : decode cX5_setAhead 29 = .ok (.iload_n 1, 1) := by decide +kernel
theorem dX5_setAhead_30 : decode cX5_setAhead 30 = .ok (.sipush 256, 3) := by decide +kernel
theorem dX5_setAhead_33 : decode cX5_setAhead 33 = .ok (.imul, 1) := by decide +kernel
theorem dX5_setAhead_34 : decode cX5_setAhead 34 = .ok (.iload_n 2, 1) := by decide +kernel
theorem dX5_setAhead_35 : decode cX5_setAhead 35 = .ok (.iadd, 1) := by decide +kernel
theorem dX5_setAhead_36 : decode cX5_setAhead 36 = .ok (.iaload, 1) := by decide +kernel
theorem dX5_setAhead_37 : decode cX5_setAhead 37 = .ok (.isub, 1) := by decide +kernel
theorem dX5_setAhead_38 : decode cX5_setAhead 38 = .ok (.istore 4, 2) := by decide +kernel
theorem dX5_setAhead_40 : decode cX5_setAhead 40 = .ok (.iconst 0, 1) := by decide +kernel
theorem dX5_setAhead_41 : decode cX5_setAhead 41 = .ok (.istore 5, 2) := by decide +kernel
theorem dX5_setAhead_43 : decode cX5_setAhead 43 = .ok (.iload 5, 2) := by decide +kernel
theorem dX5_setAhead_45 : decode cX5_setAhead 45 = .ok (.iload_n 2, 1) := by decide +kernel
theorem dX5_setAhead_46 : decode cX5_setAhead 46 = .ok (.if_icmp .ge 69, 3) := by decide +kernel
theorem dX5_setAhead_49 : decode cX5_setAhead 49 = .ok (.aload_n 0, 1) := by decide +kernel
theorem dX5_setAhead_50 : decode cX5_setAhead 50 = .ok (.iload_n 1, 1) := by decide +kernel
theorem dX5_setAhead_51 : decode cX5_setAhead 51 = .ok (.iconst 1, 1) := by decide +kernel
theorem dX5_setAhead_52 : decode cX5_setAhead 52 = .ok (.isub, 1) := by decide +kernel
theorem dX5_setAhead_53 : decode cX5_setAhead 53 = .ok (.iload 5, 2) := by decide +kernel
theorem dX5_setAhead_55 : decode cX5_setAhead 55 = .ok (.invokevirtual 170, 3) := by decide +kernel
theorem dX5_setAhead_58 : decode cX5_setAhead 58 = .ok (.istore 6, 2) := by decide +kernel
theorem dX5_setAhead_60 : decode cX5_setAhead 60 = .ok (.iload_n 2, 1) := by decide +kernel
theorem dX5_setAhead_61 : decode cX5_setAhead 61 = .ok (.iload 5, 2) := by decide +kernel
theorem dX5_setAhead_63 : decode cX5_setAhead 63 = .ok (.iconst (-1), 1) := by decide +kernel
theorem dX5_setAhead_64 : decode cX5_setAhead 64 = .ok (.ixor, 1) := by decide +kernel
theorem dX5_setAhead_65 : decode cX5_setAhead 65 = .ok (.iand, 1) := by decide +kernel
theorem dX5_setAhead_66 : decode cX5_setAhead 66 = .ok (.istore 7, 2) := by decide +kernel
theorem dX5_setAhead_68 : decode cX5_setAhead 68 = .ok (.iload 5, 2) := by decide +kernel
theorem dX5_setAhead_70 : decode cX5_setAhead 70 = .ok (.iload_n 2, 1) := by decide +kernel
theorem dX5_setAhead_71 : decode cX5_setAhead 71 = .ok (.iconst (-1), 1) := by decide +kernel
theorem dX5_setAhead_72 : decode cX5_setAhead 72 = .ok (.ixor, 1) := by decide +kernel
theorem dX5_setAhead_73 : decode cX5_setAhead 73 = .ok (.iand, 1) := by decide +kernel
theorem dX5_setAhead_74 : decode cX5_setAhead 74 = .ok (.ifCond .ne 35, 3) := by decide +kernel
theorem dX5_setAhead_77 : decode cX5_setAhead 77 = .ok (.iload 7, 2) := by decide +kernel
theorem dX5_setAhead_79 : decode cX5_setAhead 79 = .ok (.iload_n 3, 1) := by decide +kernel
theorem dX5_setAhead_80 : decode cX5_setAhead 80 = .ok (.iconst (-1), 1) := by decide +kernel
theorem dX5_setAhead_81 : decode cX5_setAhead 81 = .ok (.ixor, 1) := by decide +kernel
theorem dX5_setAhead_82 : decode cX5_setAhead 82 = .ok (.iand, 1) := by decide +kernel
theorem dX5_setAhead_83 : decode cX5_setAhead 83 = .ok (.ifCond .ne 26, 3) := by decide +kernel
theorem dX5_setAhead_86 : decode cX5_setAhead 86 = .ok (.iload 6, 2) := by decide +kernel
theorem dX5_setAhead_88 : decode cX5_setAhead 88 = .ok (.ifCond .lt 21, 3) := by decide +kernel
theorem dX5_setAhead_91 : decode cX5_setAhead 91 = .ok (.iload 6, 2) := by decide +kernel
theorem dX5_setAhead_93 : decode cX5_setAhead 93 = .ok (.aload_n 0, 1) := by decide +kernel
theorem dX5_setAhead_94 : decode cX5_setAhead 94 = .ok (.iload 7, 2) := by decide +kernel
theorem dX5_setAhead_96 : decode cX5_setAhead 96 = .ok (.iload_n 1, 1) := by decide +kernel
theorem dX5_setAhead_97 : decode cX5_setAhead 97 = .ok (.invokevirtual 173, 3) := by decide +kernel
theorem dX5_setAhead_100 : decode cX5_setAhead 100 = .ok (.isub, 1) := by decide +kernel
theorem dX5_setAhead_101 : decode cX5_setAhead 101 = .ok (.iload 4, 2) := by decide +kernel
theorem dX5_setAhead_103 : decode cX5_setAhead 103 = .ok (.if_icmp .ne 6, 3) := by decide +kernel
theorem dX5_setAhead_106 : decode cX5_setAhead 106 = .ok (.iload 5, 2) := by decide +kernel
theorem dX5_setAhead_108 : decode cX5_setAhead 108 = .ok (.ireturn, 1) := by decide +kernel
theorem dX5_setAhead_109 : decode cX5_setAhead 109 = .ok (.iinc 5 1, 3) := by decide +kernel
theorem dX5_setAhead_112 : decode cX5_setAhead 112 = .ok (.goto (-69), 3) := by decide +kernel
theorem dX5_setAhead_115 : decode cX5_setAhead 115 = .ok (.iload_n 2, 1) := by decide +kernel
theorem dX5_setAhead_116 : decode cX5_setAhead 116 = .ok (.ireturn, 1) := by decide +kernel
theorem dX5_costOf_0 : decode cX5_costOf 0 = .ok (.iconst 0, 1) := by decide +kernel
theorem dX5_costOf_1 : decode cX5_costOf 1 = .ok (.istore_n 3, 1) := by decide +kernel
theorem dX5_costOf_2 : decode cX5_costOf 2 = .ok (.iconst 0, 1) := by decide +kernel
theorem dX5_costOf_3 : decode cX5_costOf 3 = .ok (.istore 4, 2) := by decide +kernel
theorem dX5_costOf_5 : decode cX5_costOf 5 = .ok (.iload 4, 2) := by decide +kernel
theorem dX5_costOf_7 : decode cX5_costOf 7 = .ok (.bipush 8, 2) := by decide +kernel
theorem dX5_costOf_9 : decode cX5_costOf 9 = .ok (.if_icmp .ge 31, 3) := by decide +kernel
theorem dX5_costOf_12 : decode cX5_costOf 12 = .ok (.iload_n 1, 1) := by decide +kernel
theorem dX5_costOf_13 : decode cX5_costOf 13 = .ok (.iload 4, 2) := by decide +kernel
theorem dX5_costOf_15 : decode cX5_costOf 15 = .ok (.ishr, 1) := by decide +kernel
theorem dX5_costOf_16 : decode cX5_costOf 16 = .ok (.iconst 1, 1) := by decide +kernel
theorem dX5_costOf_17 : decode cX5_costOf 17 = .ok (.iand, 1) := by decide +kernel
theorem dX5_costOf_18 : decode cX5_costOf 18 = .ok (.ifCond .eq 16, 3) := by decide +kernel
theorem dX5_costOf_21 : decode cX5_costOf 21 = .ok (.iload_n 3, 1) := by decide +kernel
theorem dX5_costOf_22 : decode cX5_costOf 22 = .ok (.aload_n 0, 1) := by decide +kernel
theorem dX5_costOf_23 : decode cX5_costOf 23 = .ok (.getfield 9, 3) := by decide +kernel
theorem dX5_costOf_26 : decode cX5_costOf 26 = .ok (.iload 4, 2) := by decide +kernel
theorem dX5_costOf_28 : decode cX5_costOf 28 = .ok (.iload_n 2, 1) := by decide +kernel
theorem dX5_costOf_29 : decode cX5_costOf 29 = .ok (.invokevirtual 158, 3) := by decide +kernel
theorem dX5_costOf_32 : decode cX5_costOf 32 = .ok (.iadd, 1) := by decide +kernel
theorem dX5_costOf_33 : decode cX5_costOf 33 = .ok (.istore_n 3, 1) := by decide +kernel
theorem dX5_costOf_34 : decode cX5_costOf 34 = .ok (.iinc 4 1, 3) := by decide +kernel
theorem dX5_costOf_37 : decode cX5_costOf 37 = .ok (.goto (-32), 3) := by decide +kernel
theorem dX5_costOf_40 : decode cX5_costOf 40 = .ok (.iload_n 3, 1) := by decide +kernel
theorem dX5_costOf_41 : decode cX5_costOf 41 = .ok (.ireturn, 1) := by decide +kernel
theorem dX5_firstAllHome_0 : decode cX5_firstAllHome 0 = .ok (.iconst 0, 1) := by decide +kernel
theorem dX5_firstAllHome_1 : decode cX5_firstAllHome 1 = .ok (.istore_n 1, 1) := by decide +kernel
theorem dX5_firstAllHome_2 : decode cX5_firstAllHome 2 = .ok (.iload_n 1, 1) := by decide +kernel
theorem dX5_firstAllHome_3 : decode cX5_firstAllHome 3 = .ok (.aload_n 0, 1) := by decide +kernel
theorem dX5_firstAllHome_4 : decode cX5_firstAllHome 4 = .ok (.getfield 9, 3) := by decide +kernel
theorem dX5_firstAllHome_7 : decode cX5_firstAllHome 7 = .ok (.getfield 78, 3) := by decide +kernel
theorem dX5_firstAllHome_10 : decode cX5_firstAllHome 10 = .ok (.if_icmp .ge 26, 3) := by decide +kernel
theorem dX5_firstAllHome_13 : decode cX5_firstAllHome 13 = .ok (.aload_n 0, 1) := by decide +kernel
theorem dX5_firstAllHome_14 : decode cX5_firstAllHome 14 = .ok (.iload_n 1, 1) := by decide +kernel
theorem dX5_firstAllHome_15 : decode cX5_firstAllHome 15 = .ok (.aload_n 0, 1) := by decide +kernel
theorem dX5_firstAllHome_16 : decode cX5_firstAllHome 16 = .ok (.getfield 9, 3) := by decide +kernel
theorem dX5_firstAllHome_19 : decode cX5_firstAllHome 19 = .ok (.getfield 111, 3) := by decide +kernel
theorem dX5_firstAllHome_22 : decode cX5_firstAllHome 22 = .ok (.invokevirtual 170, 3) := by decide +kernel
theorem dX5_firstAllHome_25 : decode cX5_firstAllHome 25 = .ok (.ifCond .lt 5, 3) := by decide +kernel
theorem dX5_firstAllHome_28 : decode cX5_firstAllHome 28 = .ok (.iload_n 1, 1) := by decide +kernel
theorem dX5_firstAllHome_29 : decode cX5_firstAllHome 29 = .ok (.ireturn, 1) := by decide +kernel
theorem dX5_firstAllHome_30 : decode cX5_firstAllHome 30 = .ok (.iinc 1 1, 3) := by decide +kernel
theorem dX5_firstAllHome_33 : decode cX5_firstAllHome 33 = .ok (.goto (-31), 3) := by decide +kernel
theorem dX5_firstAllHome_36 : decode cX5_firstAllHome 36 = .ok (.iconst (-1), 1) := by decide +kernel
theorem dX5_firstAllHome_37 : decode cX5_firstAllHome 37 = .ok (.ireturn, 1) := by decide +kernel
theorem dX5_richest_0 : decode cX5_richest 0 = .ok (.iconst (-1), 1) := by decide +kernel
theorem dX5_richest_1 : decode cX5_richest 1 = .ok (.istore_n 1, 1) := by decide +kernel
theorem dX5_richest_2 : decode cX5_richest 2 = .ok (.iconst 0, 1) := by decide +kernel
theorem dX5_richest_3 : decode cX5_richest 3 = .ok (.istore_n 2, 1) := by decide +kernel
theorem dX5_richest_4 : decode cX5_richest 4 = .ok (.iload_n 2, 1) := by decide +kernel
theorem dX5_richest_5 : decode cX5_richest 5 = .ok (.aload_n 0, 1) := by decide +kernel
theorem dX5_richest_6 : decode cX5_richest 6 = .ok (.getfield 9, 3) := by decide +kernel
theorem dX5_richest_9 : decode cX5_richest 9 = .ok (.getfield 111, 3) := by decide +kernel
theorem dX5_richest_12 : decode cX5_richest 12 = .ok (.if_icmp .gt 47, 3) := by decide +kernel
theorem dX5_richest_15 : decode cX5_richest 15 = .ok (.iload_n 2, 1) := by decide +kernel
theorem dX5_richest_16 : decode cX5_richest 16 = .ok (.sipush 256, 3) := by decide +kernel
theorem dX5_richest_19 : decode cX5_richest 19 = .ok (.if_icmp .ge 40, 3) := by decide +kernel
theorem dX5_richest_22 : decode cX5_richest 22 = .ok (.aload_n 0, 1) := by decide +kernel
theorem dX5_richest_23 : decode cX5_richest 23 = .ok (.aload_n 0, 1) := by decide +kernel
theorem dX5_richest_24 : decode cX5_richest 24 = .ok (.getfield 9, 3) := by decide +kernel
theorem dX5_richest_27 : decode cX5_richest 27 = .ok (.getfield 78, 3) := by decide +kernel
theorem dX5_richest_30 : decode cX5_richest 30 = .ok (.iconst 1, 1) := by decide +kernel
theorem dX5_richest_31 : decode cX5_richest 31 = .ok (.isub, 1) := by decide +kernel
theorem dX5_richest_32 : decode cX5_richest 32 = .ok (.iload_n 2, 1) := by decide +kernel
theorem dX5_richest_33 : decode cX5_richest 33 = .ok (.invokevirtual 170, 3) := by decide +kernel
theorem dX5_richest_36 : decode cX5_richest 36 = .ok (.istore_n 3, 1) := by decide +kernel
theorem dX5_richest_37 : decode cX5_richest 37 = .ok (.iload_n 3, 1) := by decide +kernel
theorem dX5_richest_38 : decode cX5_richest 38 = .ok (.ifCond .lt 15, 3) := by decide +kernel
theorem dX5_richest_41 : decode cX5_richest 41 = .ok (.iload_n 1, 1) := by decide +kernel
theorem dX5_richest_42 : decode cX5_richest 42 = .ok (.iload_n 3, 1) := by decide +kernel
theorem dX5_richest_43 : decode cX5_richest 43 = .ok (.aload_n 0, 1) := by decide +kernel
theorem dX5_richest_44 : decode cX5_richest 44 = .ok (.iload_n 2, 1) := by decide +kernel
theorem dX5_richest_45 : decode cX5_richest 45 = .ok (.invokevirtual 176, 3) := by decide +kernel
theorem dX5_richest_48 : decode cX5_richest 48 = .ok (.iadd, 1) := by decide +kernel
theorem dX5_richest_49 : decode cX5_richest 49 = .ok (.invokestatic 127, 3) := by decide +kernel
theorem dX5_richest_52 : decode cX5_richest 52 = .ok (.istore_n 1, 1) := by decide +kernel
theorem dX5_richest_53 : decode cX5_richest 53 = .ok (.iinc 2 1, 3) := by decide +kernel
theorem dX5_richest_56 : decode cX5_richest 56 = .ok (.goto (-52), 3) := by decide +kernel
theorem dX5_richest_59 : decode cX5_richest 59 = .ok (.iload_n 1, 1) := by decide +kernel
theorem dX5_richest_60 : decode cX5_richest 60 = .ok (.ireturn, 1) := by decide +kernel
theorem dX5_worthOf_0 : decode cX5_worthOf 0 = .ok (.iconst 0, 1) := by decide +kernel
theorem dX5_worthOf_1 : decode cX5_worthOf 1 = .ok (.istore_n 2, 1) := by decide +kernel
theorem dX5_worthOf_2 : decode cX5_worthOf 2 = .ok (.iconst 0, 1) := by decide +kernel
theorem dX5_worthOf_3 : decode cX5_worthOf 3 = .ok (.istore_n 3, 1) := by decide +kernel
theorem dX5_worthOf_4 : decode cX5_worthOf 4 = .ok (.iload_n 3, 1) := by decide +kernel
theorem dX5_worthOf_5 : decode cX5_worthOf 5 = .ok (.bipush 8, 2) := by decide +kernel
theorem dX5_worthOf_7 : decode cX5_worthOf 7 = .ok (.if_icmp .ge 29, 3) := by decide +kernel
theorem dX5_worthOf_10 : decode cX5_worthOf 10 = .ok (.iload_n 1, 1) := by decide +kernel
theorem dX5_worthOf_11 : decode cX5_worthOf 11 = .ok (.iload_n 3, 1) := by decide +kernel
theorem dX5_worthOf_12 : decode cX5_worthOf 12 = .ok (.ishr, 1) := by decide +kernel
theorem dX5_worthOf_13 : decode cX5_worthOf 13 = .ok (.iconst 1, 1) := by decide +kernel
theorem dX5_worthOf_14 : decode cX5_worthOf 14 = .ok (.iand, 1) := by decide +kernel
theorem dX5_worthOf_15 : decode cX5_worthOf 15 = .ok (.ifCond .eq 15, 3) := by decide +kernel
theorem dX5_worthOf_18 : decode cX5_worthOf 18 = .ok (.iload_n 2, 1) := by decide +kernel
theorem dX5_worthOf_19 : decode cX5_worthOf 19 = .ok (.aload_n 0, 1) := by decide +kernel
theorem dX5_worthOf_20 : decode cX5_worthOf 20 = .ok (.getfield 9, 3) := by decide +kernel
theorem dX5_worthOf_23 : decode cX5_worthOf 23 = .ok (.getfield 179, 3) := by decide +kernel
theorem dX5_worthOf_26 : decode cX5_worthOf 26 = .ok (.iload_n 3, 1) := by decide +kernel
theorem dX5_worthOf_27 : decode cX5_worthOf 27 = .ok (.iaload, 1) := by decide +kernel
theorem dX5_worthOf_28 : decode cX5_worthOf 28 = .ok (.iadd, 1) := by decide +kernel
theorem dX5_worthOf_29 : decode cX5_worthOf 29 = .ok (.istore_n 2, 1) := by decide +kernel
theorem dX5_worthOf_30 : decode cX5_worthOf 30 = .ok (.iinc 3 1, 3) := by decide +kernel
theorem dX5_worthOf_33 : decode cX5_worthOf 33 = .ok (.goto (-29), 3) := by decide +kernel
theorem dX5_worthOf_36 : decode cX5_worthOf 36 = .ok (.iload_n 2, 1) := by decide +kernel
theorem dX5_worthOf_37 : decode cX5_worthOf 37 = .ok (.ireturn, 1) := by decide +kernel
theorem dX5_gainsWithout_0 : decode cX5_gainsWithout 0 = .ok (.aload_n 0, 1) := by decide +kernel
theorem dX5_gainsWithout_1 : decode cX5_gainsWithout 1 = .ok (.getfield 9, 3) := by decide +kernel
theorem dX5_gainsWithout_4 : decode cX5_gainsWithout 4 = .ok (.iload_n 1, 1) := by decide +kernel
theorem dX5_gainsWithout_5 : decode cX5_gainsWithout 5 = .ok (.iload_n 2, 1) := by decide +kernel
theorem dX5_gainsWithout_6 : decode cX5_gainsWithout 6 = .ok (.invokevirtual 182, 3) := by decide +kernel
theorem dX5_gainsWithout_9 : decode cX5_gainsWithout 9 = .ok (.ifCond .ne 18, 3) := by decide +kernel
theorem dX5_gainsWithout_12 : decode cX5_gainsWithout 12 = .ok (.aload_n 0, 1) := by decide +kernel
theorem dX5_gainsWithout_13 : decode cX5_gainsWithout 13 = .ok (.getfield 9, 3) := by decide +kernel
theorem dX5_gainsWithout_16 : decode cX5_gainsWithout 16 = .ok (.getfield 52, 3) := by decide +kernel
theorem dX5_gainsWithout_19 : decode cX5_gainsWithout 19 = .ok (.bipush 21, 2) := by decide +kernel
theorem dX5_gainsWithout_21 : decode cX5_gainsWithout 21 = .ok (.invokevirtual 58, 3) := by decide +kernel
theorem dX5_gainsWithout_24 : decode cX5_gainsWithout 24 = .ok (.ifCond .ne 10, 3) := by decide +kernel
theorem dX5_gainsWithout_27 : decode cX5_gainsWithout 27 = .ok (.aload_n 0, 1) := by decide +kernel
theorem dX5_gainsWithout_28 : decode cX5_gainsWithout 28 = .ok (.getfield 26, 3) := by decide +kernel
theorem dX5_gainsWithout_31 : decode cX5_gainsWithout 31 = .ok (.goto 7, 3) := by decide +kernel
theorem dX5_gainsWithout_34 : decode cX5_gainsWithout 34 = .ok (.aload_n 0, 1) := by decide +kernel
theorem dX5_gainsWithout_35 : decode cX5_gainsWithout 35 = .ok (.getfield 29, 3) := by decide +kernel
theorem dX5_gainsWithout_38 : decode cX5_gainsWithout 38 = .ok (.areturn, 1) := by decide +kernel
theorem dX5_hanging_0 : decode cX5_hanging 0 = .ok (.aload_n 0, 1) := by decide +kernel
theorem dX5_hanging_1 : decode cX5_hanging 1 = .ok (.getfield 32, 3) := by decide +kernel
theorem dX5_hanging_4 : decode cX5_hanging 4 = .ok (.iconst 0, 1) := by decide +kernel
theorem dX5_hanging_5 : decode cX5_hanging 5 = .ok (.aload_n 0, 1) := by decide +kernel
theorem dX5_hanging_6 : decode cX5_hanging 6 = .ok (.getfield 9, 3) := by decide +kernel
theorem dX5_hanging_9 : decode cX5_hanging 9 = .ok (.getfield 64, 3) := by decide +kernel
theorem dX5_hanging_12 : decode cX5_hanging 12 = .ok (.invokestatic 68, 3) := by decide +kernel
theorem dX5_hanging_15 : decode cX5_hanging 15 = .ok (.iconst 0, 1) := by decide +kernel
theorem dX5_hanging_16 : decode cX5_hanging 16 = .ok (.istore_n 2, 1) := by decide +kernel
theorem dX5_hanging_17 : decode cX5_hanging 17 = .ok (.iload_n 2, 1) := by decide +kernel
theorem dX5_hanging_18 : decode cX5_hanging 18 = .ok (.aload_n 0, 1) := by decide +kernel
theorem dX5_hanging_19 : decode cX5_hanging 19 = .ok (.getfield 9, 3) := by decide +kernel
theorem dX5_hanging_22 : decode cX5_hanging 22 = .ok (.getfield 78, 3) := by decide +kernel
theorem dX5_hanging_25 : decode cX5_hanging 25 = .ok (.if_icmp .ge 27, 3) := by decide +kernel
theorem dX5_hanging_28 : decode cX5_hanging 28 = .ok (.aload_n 0, 1) := by decide +kernel
theorem dX5_hanging_29 : decode cX5_hanging 29 = .ok (.aload_n 0, 1) := by decide +kernel
theorem dX5_hanging_30 : decode cX5_hanging 30 = .ok (.getfield 32, 3) := by decide +kernel
theorem dX5_hanging_33 : decode cX5_hanging 33 = .ok (.iload_n 2, 1) := by decide +kernel
theorem dX5_hanging_34 : decode cX5_hanging 34 = .ok (.iconst 1, 1) := by decide +kernel
theorem dX5_hanging_35 : decode cX5_hanging 35 = .ok (.iload_n 1, 1) := by decide +kernel
theorem dX5_hanging_36 : decode cX5_hanging 36 = .ok (.ishl, 1) := by decide +kernel
theorem dX5_hanging_37 : decode cX5_hanging 37 = .ok (.aload_n 0, 1) := by decide +kernel
theorem dX5_hanging_38 : decode cX5_hanging 38 = .ok (.iload_n 1, 1) := by decide +kernel
theorem dX5_hanging_39 : decode cX5_hanging 39 = .ok (.iload_n 2, 1) := by decide +kernel
theorem dX5_hanging_40 : decode cX5_hanging 40 = .ok (.invokevirtual 186, 3) := by decide +kernel
theorem dX5_hanging_43 : decode cX5_hanging 43 = .ok (.invokevirtual 81, 3) := by decide +kernel
theorem dX5_hanging_46 : decode cX5_hanging 46 = .ok (.iinc 2 1, 3) := by decide +kernel
theorem dX5_hanging_49 : decode cX5_hanging 49 = .ok (.goto (-32), 3) := by decide +kernel
theorem dX5_hanging_52 : decode cX5_hanging 52 = .ok (.aload_n 0, 1) := by decide +kernel
theorem dX5_hanging_53 : decode cX5_hanging 53 = .ok (.getfield 98, 3) := by decide +kernel
theorem dX5_hanging_56 : decode cX5_hanging 56 = .ok (.iconst 0, 1) := by decide +kernel
theorem dX5_hanging_57 : decode cX5_hanging 57 = .ok (.aload_n 0, 1) := by decide +kernel
theorem dX5_hanging_58 : decode cX5_hanging 58 = .ok (.getfield 32, 3) := by decide +kernel
theorem dX5_hanging_61 : decode cX5_hanging 61 = .ok (.invokestatic 94, 3) := by decide +kernel
theorem dX5_hanging_64 : decode cX5_hanging 64 = .ok (.invokestatic 127, 3) := by decide +kernel
theorem dX5_hanging_67 : decode cX5_hanging 67 = .ok (.isub, 1) := by decide +kernel
theorem dX5_hanging_68 : decode cX5_hanging 68 = .ok (.ireturn, 1) := by decide +kernel
theorem dX5_keyThing_0 : decode cX5_keyThing 0 = .ok (.iconst (-1), 1) := by decide +kernel
theorem dX5_keyThing_1 : decode cX5_keyThing 1 = .ok (.istore_n 1, 1) := by decide +kernel
theorem dX5_keyThing_2 : decode cX5_keyThing 2 = .ok (.iconst 0, 1) := by decide +kernel
theorem dX5_keyThing_3 : decode cX5_keyThing 3 = .ok (.istore_n 2, 1) := by decide +kernel
theorem dX5_keyThing_4 : decode cX5_keyThing 4 = .ok (.iconst 0, 1) := by decide +kernel
theorem dX5_keyThing_5 : decode cX5_keyThing 5 = .ok (.istore_n 3, 1) := by decide +kernel
theorem dX5_keyThing_6 : decode cX5_keyThing 6 = .ok (.iload_n 3, 1) := by decide +kernel
theorem dX5_keyThing_7 : decode cX5_keyThing 7 = .ok (.bipush 8, 2) := by decide +kernel
theorem dX5_keyThing_9 : decode cX5_keyThing 9 = .ok (.if_icmp .ge 82, 3) := by decide +kernel
theorem dX5_keyThing_12 : decode cX5_keyThing 12 = .ok (.aload_n 0, 1) := by decide +kernel
theorem dX5_keyThing_13 : decode cX5_keyThing 13 = .ok (.getfield 9, 3) := by decide +kernel
theorem dX5_keyThing_16 : decode cX5_keyThing 16 = .ok (.iload_n 3, 1) := by decide +kernel
theorem dX5_keyThing_17 : decode cX5_keyThing 17 = .ok (.invokevirtual 190, 3) := by decide +kernel
theorem dX5_keyThing_20 : decode cX5_keyThing 20 = .ok (.ifCond .eq 65, 3) := by decide +kernel
theorem dX5_keyThing_23 : decode cX5_keyThing 23 = .ok (.aload_n 0, 1) := by decide +kernel
theorem dX5_keyThing_24 : decode cX5_keyThing 24 = .ok (.iload_n 3, 1) := by decide +kernel
theorem dX5_keyThing_25 : decode cX5_keyThing 25 = .ok (.invokevirtual 193, 3) := by decide +kernel
theorem dX5_keyThing_28 : decode cX5_keyThing 28 = .ok (.istore 4, 2) := by decide +kernel
theorem dX5_keyThing_30 : decode cX5_keyThing 30 = .ok (.iload_n 1, 1) := by decide +kernel
theorem dX5_keyThing_31 : decode cX5_keyThing 31 = .ok (.iconst (-1), 1) := by decide +kernel
theorem dX5_keyThing_32 : decode cX5_keyThing 32 = .ok (.if_icmp .eq 9, 3) := by decide +kernel
theorem dX5_keyThing_35 : decode cX5_keyThing 35 = .ok (.iload 4, 2) := by decide +kernel
theorem dX5_keyThing_37 : decode cX5_keyThing 37 = .ok (.iload_n 2, 1) := by decide +kernel
theorem dX5_keyThing_38 : decode cX5_keyThing 38 = .ok (.if_icmp .le 7, 3) := by decide +kernel
theorem dX5_keyThing_41 : decode cX5_keyThing 41 = .ok (.iconst 1, 1) := by decide +kernel
theorem dX5_keyThing_42 : decode cX5_keyThing 42 = .ok (.goto 4, 3) := by decide +kernel
theorem dX5_keyThing_45 : decode cX5_keyThing 45 = .ok (.iconst 0, 1) := by decide +kernel
theorem dX5_keyThing_46 : decode cX5_keyThing 46 = .ok (.istore 5, 2) := by decide +kernel
theorem dX5_keyThing_48 : decode cX5_keyThing 48 = .ok (.iload 5, 2) := by decide +kernel
theorem dX5_keyThing_50 : decode cX5_keyThing 50 = .ok (.ifCond .ne 30, 3) := by decide +kernel
theorem dX5_keyThing_53 : decode cX5_keyThing 53 = .ok (.iload 4, 2) := by decide +kernel
theorem dX5_keyThing_55 : decode cX5_keyThing 55 = .ok (.iload_n 2, 1) := by decide +kernel
theorem dX5_keyThing_56 : decode cX5_keyThing 56 = .ok (.if_icmp .ne 29, 3) := by decide +kernel
theorem dX5_keyThing_59 : decode cX5_keyThing 59 = .ok (.aload_n 0, 1) := by decide +kernel
theorem dX5_keyThing_60 : decode cX5_keyThing 60 = .ok (.getfield 9, 3) := by decide +kernel
theorem dX5_keyThing_63 : decode cX5_keyThing 63 = .ok (.getfield 196, 3) := by decide +kernel
theorem dX5_keyThing_66 : decode cX5_keyThing 66 = .ok (.iload_n 3, 1) := by decide +kernel
theorem dX5_keyThing_67 : decode cX5_keyThing 67 = .ok (.iaload, 1) := by decide +kernel
theorem dX5_keyThing_68 : decode cX5_keyThing 68 = .ok (.aload_n 0, 1) := by decide +kernel
theorem dX5_keyThing_69 : decode cX5_keyThing 69 = .ok (.getfield 9, 3) := by decide +kernel
theorem dX5_keyThing_72 : decode cX5_keyThing 72 = .ok (.getfield 196, 3) := by decide +kernel
theorem dX5_keyThing_75 : decode cX5_keyThing 75 = .ok (.iload_n 1, 1) := by decide +kernel
theorem dX5_keyThing_76 : decode cX5_keyThing 76 = .ok (.iaload, 1) := by decide +kernel
theorem dX5_keyThing_77 : decode cX5_keyThing 77 = .ok (.if_icmp .ge 8, 3) := by decide +kernel
theorem dX5_keyThing_80 : decode cX5_keyThing 80 = .ok (.iload_n 3, 1) := by decide +kernel
theorem dX5_keyThing_81 : decode cX5_keyThing 81 = .ok (.istore_n 1, 1) := by decide +kernel
theorem dX5_keyThing_82 : decode cX5_keyThing 82 = .ok (.iload 4, 2) := by decide +kernel
theorem dX5_keyThing_84 : decode cX5_keyThing 84 = .ok (.istore_n 2, 1) := by decide +kernel
theorem dX5_keyThing_85 : decode cX5_keyThing 85 = .ok (.iinc 3 1, 3) := by decide +kernel
theorem dX5_keyThing_88 : decode cX5_keyThing 88 = .ok (.goto (-82), 3) := by decide +kernel
theorem dX5_keyThing_91 : decode cX5_keyThing 91 = .ok (.iload_n 1, 1) := by decide +kernel
theorem dX5_keyThing_92 : decode cX5_keyThing 92 = .ok (.ireturn, 1) := by decide +kernel
theorem dX5_bestNeverPut_0 : decode cX5_bestNeverPut 0 = .ok (.aload_n 0, 1) := by decide +kernel
theorem dX5_bestNeverPut_1 : decode cX5_bestNeverPut 1 = .ok (.getfield 9, 3) := by decide +kernel
theorem dX5_bestNeverPut_4 : decode cX5_bestNeverPut 4 = .ok (.getfield 64, 3) := by decide +kernel
theorem dX5_bestNeverPut_7 : decode cX5_bestNeverPut 7 = .ok (.aload_n 0, 1) := by decide +kernel
theorem dX5_bestNeverPut_8 : decode cX5_bestNeverPut 8 = .ok (.getfield 9, 3) := by decide +kernel
theorem dX5_bestNeverPut_11 : decode cX5_bestNeverPut 11 = .ok (.getfield 196, 3) := by decide +kernel
theorem dX5_bestNeverPut_14 : decode cX5_bestNeverPut 14 = .ok (.iload_n 1, 1) := by decide +kernel
theorem dX5_bestNeverPut_15 : decode cX5_bestNeverPut 15 = .ok (.iaload, 1) := by decide +kernel
theorem dX5_bestNeverPut_16 : decode cX5_bestNeverPut 16 = .ok (.isub, 1) := by decide +kernel
theorem dX5_bestNeverPut_17 : decode cX5_bestNeverPut 17 = .ok (.istore_n 2, 1) := by decide +kernel
theorem dX5_bestNeverPut_18 : decode cX5_bestNeverPut 18 = .ok (.iload_n 2, 1) := by decide +kernel
theorem dX5_bestNeverPut_19 : decode cX5_bestNeverPut 19 = .ok (.ifCond .ge 5, 3) := by decide +kernel
theorem dX5_bestNeverPut_22 : decode cX5_bestNeverPut 22 = .ok (.iconst (-1), 1) := by decide +kernel
theorem dX5_bestNeverPut_23 : decode cX5_bestNeverPut 23 = .ok (.ireturn, 1) := by decide +kernel
theorem dX5_bestNeverPut_24 : decode cX5_bestNeverPut 24 = .ok (.aload_n 0, 1) := by decide +kernel
theorem dX5_bestNeverPut_25 : decode cX5_bestNeverPut 25 = .ok (.getfield 32, 3) := by decide +kernel
theorem dX5_bestNeverPut_28 : decode cX5_bestNeverPut 28 = .ok (.iconst 1, 1) := by decide +kernel
theorem dX5_bestNeverPut_29 : decode cX5_bestNeverPut 29 = .ok (.iload_n 1, 1) := by decide +kernel
theorem dX5_bestNeverPut_30 : decode cX5_bestNeverPut 30 = .ok (.ishl, 1) := by decide +kernel
theorem dX5_bestNeverPut_31 : decode cX5_bestNeverPut 31 = .ok (.iload_n 2, 1) := by decide +kernel
theorem dX5_bestNeverPut_32 : decode cX5_bestNeverPut 32 = .ok (.invokestatic 68, 3) := by decide +kernel
theorem dX5_bestNeverPut_35 : decode cX5_bestNeverPut 35 = .ok (.iconst 0, 1) := by decide +kernel
theorem dX5_bestNeverPut_36 : decode cX5_bestNeverPut 36 = .ok (.istore_n 3, 1) := by decide +kernel
theorem dX5_bestNeverPut_37 : decode cX5_bestNeverPut 37 = .ok (.iload_n 3, 1) := by decide +kernel
theorem dX5_bestNeverPut_38 : decode cX5_bestNeverPut 38 = .ok (.aload_n 0, 1) := by decide +kernel
theorem dX5_bestNeverPut_39 : decode cX5_bestNeverPut 39 = .ok (.getfield 9, 3) := by decide +kernel
theorem dX5_bestNeverPut_42 : decode cX5_bestNeverPut 42 = .ok (.getfield 78, 3) := by decide +kernel
theorem dX5_bestNeverPut_45 : decode cX5_bestNeverPut 45 = .ok (.if_icmp .ge 23, 3) := by decide +kernel
theorem dX5_bestNeverPut_48 : decode cX5_bestNeverPut 48 = .ok (.aload_n 0, 1) := by decide +kernel
theorem dX5_bestNeverPut_49 : decode cX5_bestNeverPut 49 = .ok (.aload_n 0, 1) := by decide +kernel
theorem dX5_bestNeverPut_50 : decode cX5_bestNeverPut 50 = .ok (.getfield 32, 3) := by decide +kernel
theorem dX5_bestNeverPut_53 : decode cX5_bestNeverPut 53 = .ok (.iload_n 3, 1) := by decide +kernel
theorem dX5_bestNeverPut_54 : decode cX5_bestNeverPut 54 = .ok (.iconst 0, 1) := by decide +kernel
theorem dX5_bestNeverPut_55 : decode cX5_bestNeverPut 55 = .ok (.aload_n 0, 1) := by decide +kernel
theorem dX5_bestNeverPut_56 : decode cX5_bestNeverPut 56 = .ok (.getfield 26, 3) := by decide +kernel
theorem dX5_bestNeverPut_59 : decode cX5_bestNeverPut 59 = .ok (.invokevirtual 81, 3) := by decide +kernel
theorem dX5_bestNeverPut_62 : decode cX5_bestNeverPut 62 = .ok (.iinc 3 1, 3) := by decide +kernel
theorem dX5_bestNeverPut_65 : decode cX5_bestNeverPut 65 = .ok (.goto (-28), 3) := by decide +kernel
theorem dX5_bestNeverPut_68 : decode cX5_bestNeverPut 68 = .ok (.aload_n 0, 1) := by decide +kernel
theorem dX5_bestNeverPut_69 : decode cX5_bestNeverPut 69 = .ok (.getfield 32, 3) := by decide +kernel
theorem dX5_bestNeverPut_72 : decode cX5_bestNeverPut 72 = .ok (.invokestatic 94, 3) := by decide +kernel
theorem dX5_bestNeverPut_75 : decode cX5_bestNeverPut 75 = .ok (.ireturn, 1) := by decide +kernel
theorem dX5_bestBorrowing_0 : decode cX5_bestBorrowing 0 = .ok (.iload_n 1, 1) := by decide +kernel
theorem dX5_bestBorrowing_1 : decode cX5_bestBorrowing 1 = .ok (.ifCond .lt 14, 3) := by decide +kernel
theorem dX5_bestBorrowing_4 : decode cX5_bestBorrowing 4 = .ok (.aload_n 0, 1) := by decide +kernel
theorem dX5_bestBorrowing_5 : decode cX5_bestBorrowing 5 = .ok (.getfield 9, 3) := by decide +kernel
theorem dX5_bestBorrowing_8 : decode cX5_bestBorrowing 8 = .ok (.iload_n 1, 1) := by decide +kernel
theorem dX5_bestBorrowing_9 : decode cX5_bestBorrowing 9 = .ok (.invokevirtual 199, 3) := by decide +kernel
theorem dX5_bestBorrowing_12 : decode cX5_bestBorrowing 12 = .ok (.ifCond .ne 5, 3) := by decide +kernel
theorem dX5_bestBorrowing_15 : decode cX5_bestBorrowing 15 = .ok (.iconst (-1), 1) := by decide +kernel
theorem dX5_bestBorrowing_16 : decode cX5_bestBorrowing 16 = .ok (.ireturn, 1) := by decide +kernel
theorem dX5_bestBorrowing_17 : decode cX5_bestBorrowing 17 = .ok (.iload_n 1, 1) := by decide +kernel
theorem dX5_bestBorrowing_18 : decode cX5_bestBorrowing 18 = .ok (.ifCond .ne 21, 3) := by decide +kernel
theorem dX5_bestBorrowing_21 : decode cX5_bestBorrowing 21 = .ok (.aload_n 0, 1) := by decide +kernel
theorem dX5_bestBorrowing_22 : decode cX5_bestBorrowing 22 = .ok (.getfield 32, 3) := by decide +kernel
theorem dX5_bestBorrowing_25 : decode cX5_bestBorrowing 25 = .ok (.iconst 0, 1) := by decide +kernel
theorem dX5_bestBorrowing_26 : decode cX5_bestBorrowing 26 = .ok (.aload_n 0, 1) := by decide +kernel
theorem dX5_bestBorrowing_27 : decode cX5_bestBorrowing 27 = .ok (.getfield 9, 3) := by decide +kernel
theorem dX5_bestBorrowing_30 : decode cX5_bestBorrowing 30 = .ok (.getfield 64, 3) := by decide +kernel
theorem dX5_bestBorrowing_33 : decode cX5_bestBorrowing 33 = .ok (.invokestatic 68, 3) := by decide +kernel
theorem dX5_bestBorrowing_36 : decode cX5_bestBorrowing 36 = .ok (.goto 31, 3) := by decide +kernel
theorem dX5_bestBorrowing_39 : decode cX5_bestBorrowing 39 = .ok (.iload_n 1, 1) := by decide +kernel
theorem dX5_bestBorrowing_40 : decode cX5_bestBorrowing 40 = .ok (.bipush 60, 2) := by decide +kernel
theorem dX5_bestBorrowing_42 : decode cX5_bestBorrowing 42 = .ok (.if_icmp .gt 25, 3) := by decide +kernel
theorem dX5_bestBorrowing_45 : decode cX5_bestBorrowing 45 = .ok (.aload_n 0, 1) := by decide +kernel
theorem dX5_bestBorrowing_46 : decode cX5_bestBorrowing 46 = .ok (.getfield 23, 3) := by decide +kernel
theorem dX5_bestBorrowing_49 : decode cX5_bestBorrowing 49 = .ok (.iload_n 1, 1) := by decide +kernel
theorem dX5_bestBorrowing_50 : decode cX5_bestBorrowing 50 = .ok (.iconst 1, 1) := by decide +kernel
theorem dX5_bestBorrowing_51 : decode cX5_bestBorrowing 51 = .ok (.isub, 1) := by decide +kernel
theorem dX5_bestBorrowing_52 : decode cX5_bestBorrowing 52 = .ok (.sipush 256, 3) := by decide +kernel
theorem dX5_bestBorrowing_55 : decode cX5_bestBorrowing 55 = .ok (.imul, 1) := by decide +kernel
theorem dX5_bestBorrowing_56 : decode cX5_bestBorrowing 56 = .ok (.aload_n 0, 1) := by decide +kernel
theorem dX5_bestBorrowing_57 : decode cX5_bestBorrowing 57 = .ok (.getfield 32, 3) := by decide +kernel
theorem dX5_bestBorrowing_60 : decode cX5_bestBorrowing 60 = .ok (.iconst 0, 1) := by decide +kernel
theorem dX5_bestBorrowing_61 : decode cX5_bestBorrowing 61 = .ok (.sipush 256, 3) := by decide +kernel
theorem dX5_bestBorrowing_64 : decode cX5_bestBorrowing 64 = .ok (.invokestatic 85, 3) := by decide +kernel
theorem dX5_bestBorrowing_67 : decode cX5_bestBorrowing 67 = .ok (.aload_n 0, 1) := by decide +kernel
theorem dX5_bestBorrowing_68 : decode cX5_bestBorrowing 68 = .ok (.getfield 32, 3) := by decide +kernel
theorem dX5_bestBorrowing_71 : decode cX5_bestBorrowing 71 = .ok (.aload_n 0, 1) := by decide +kernel
theorem dX5_bestBorrowing_72 : decode cX5_bestBorrowing 72 = .ok (.getfield 9, 3) := by decide +kernel
theorem dX5_bestBorrowing_75 : decode cX5_bestBorrowing 75 = .ok (.getfield 202, 3) := by decide +kernel
theorem dX5_bestBorrowing_78 : decode cX5_bestBorrowing 78 = .ok (.invokestatic 205, 3) := by decide +kernel
theorem dX5_bestBorrowing_81 : decode cX5_bestBorrowing 81 = .ok (.iload_n 1, 1) := by decide +kernel
theorem dX5_bestBorrowing_82 : decode cX5_bestBorrowing 82 = .ok (.istore_n 2, 1) := by decide +kernel
theorem dX5_bestBorrowing_83 : decode cX5_bestBorrowing 83 = .ok (.iload_n 2, 1) := by decide +kernel
theorem dX5_bestBorrowing_84 : decode cX5_bestBorrowing 84 = .ok (.aload_n 0, 1) := by decide +kernel
theorem dX5_bestBorrowing_85 : decode cX5_bestBorrowing 85 = .ok (.getfield 9, 3) := by decide +kernel
theorem dX5_bestBorrowing_88 : decode cX5_bestBorrowing 88 = .ok (.getfield 78, 3) := by decide +kernel
theorem dX5_bestBorrowing_91 : decode cX5_bestBorrowing 91 = .ok (.if_icmp .ge 49, 3) := by decide +kernel
theorem dX5_bestBorrowing_94 : decode cX5_bestBorrowing 94 = .ok (.iload_n 2, 1) := by decide +kernel
theorem dX5_bestBorrowing_95 : decode cX5_bestBorrowing 95 = .ok (.aload_n 0, 1) := by decide +kernel
theorem dX5_bestBorrowing_96 : decode cX5_bestBorrowing 96 = .ok (.getfield 9, 3) := by decide +kernel
theorem dX5_bestBorrowing_99 : decode cX5_bestBorrowing 99 = .ok (.getfield 208, 3) := by decide +kernel
theorem dX5_bestBorrowing_102 : decode cX5_bestBorrowing 102 = .ok (.if_icmp .ne 18, 3) := by decide +kernel
theorem dX5_bestBorrowing_105 : decode cX5_bestBorrowing 105 = .ok (.aload_n 0, 1) := by decide +kernel
theorem dX5_bestBorrowing_106 : decode cX5_bestBorrowing 106 = .ok (.getfield 32, 3) := by decide +kernel
theorem dX5_bestBorrowing_109 : decode cX5_bestBorrowing 109 = .ok (.aload_n 0, 1) := by decide +kernel
theorem dX5_bestBorrowing_110 : decode cX5_bestBorrowing 110 = .ok (.getfield 9, 3) := by decide +kernel
theorem dX5_bestBorrowing_113 : decode cX5_bestBorrowing 113 = .ok (.getfield 202, 3) := by decide +kernel
theorem dX5_bestBorrowing_116 : decode cX5_bestBorrowing 116 = .ok (.ineg, 1) := by decide +kernel
theorem dX5_bestBorrowing_117 : decode cX5_bestBorrowing 117 = .ok (.invokestatic 205, 3) := by decide +kernel
theorem dX5_bestBorrowing_120 : decode cX5_bestBorrowing 120 = .ok (.aload_n 0, 1) := by decide +kernel
theorem dX5_bestBorrowing_121 : decode cX5_bestBorrowing 121 = .ok (.aload_n 0, 1) := by decide +kernel
theorem dX5_bestBorrowing_122 : decode cX5_bestBorrowing 122 = .ok (.getfield 32, 3) := by decide +kernel
theorem dX5_bestBorrowing_125 : decode cX5_bestBorrowing 125 = .ok (.iload_n 2, 1) := by decide +kernel
theorem dX5_bestBorrowing_126 : decode cX5_bestBorrowing 126 = .ok (.iconst 0, 1) := by decide +kernel
theorem dX5_bestBorrowing_127 : decode cX5_bestBorrowing 127 = .ok (.aload_n 0, 1) := by decide +kernel
theorem dX5_bestBorrowing_128 : decode cX5_bestBorrowing 128 = .ok (.getfield 26, 3) := by decide +kernel
theorem dX5_bestBorrowing_131 : decode cX5_bestBorrowing 131 = .ok (.invokevirtual 81, 3) := by decide +kernel
theorem dX5_bestBorrowing_134 : decode cX5_bestBorrowing 134 = .ok (.iinc 2 1, 3) := by decide +kernel
theorem dX5_bestBorrowing_137 : decode cX5_bestBorrowing 137 = .ok (.goto (-54), 3) := by decide +kernel
theorem dX5_bestBorrowing_140 : decode cX5_bestBorrowing 140 = .ok (.aload_n 0, 1) := by decide +kernel
theorem dX5_bestBorrowing_141 : decode cX5_bestBorrowing 141 = .ok (.getfield 32, 3) := by decide +kernel
theorem dX5_bestBorrowing_144 : decode cX5_bestBorrowing 144 = .ok (.invokestatic 94, 3) := by decide +kernel
theorem dX5_bestBorrowing_147 : decode cX5_bestBorrowing 147 = .ok (.ireturn, 1) := by decide +kernel
theorem dX5_borrowingWeek_0 : decode cX5_borrowingWeek 0 = .ok (.aload_n 0, 1) := by decide +kernel
theorem dX5_borrowingWeek_1 : decode cX5_borrowingWeek 1 = .ok (.iconst 0, 1) := by decide +kernel
theorem dX5_borrowingWeek_2 : decode cX5_borrowingWeek 2 = .ok (.invokevirtual 211, 3) := by decide +kernel
theorem dX5_borrowingWeek_5 : decode cX5_borrowingWeek 5 = .ok (.aload_n 0, 1) := by decide +kernel
theorem dX5_borrowingWeek_6 : decode cX5_borrowingWeek 6 = .ok (.getfield 98, 3) := by decide +kernel
theorem dX5_borrowingWeek_9 : decode cX5_borrowingWeek 9 = .ok (.if_icmp .le 7, 3) := by decide +kernel
theorem dX5_borrowingWeek_12 : decode cX5_borrowingWeek 12 = .ok (.iconst 0, 1) := by decide +kernel
theorem dX5_borrowingWeek_13 : decode cX5_borrowingWeek 13 = .ok (.goto 4, 3) := by decide +kernel
theorem dX5_borrowingWeek_16 : decode cX5_borrowingWeek 16 = .ok (.iconst (-1), 1) := by decide +kernel
theorem dX5_borrowingWeek_17 : decode cX5_borrowingWeek 17 = .ok (.ireturn, 1) := by decide +kernel
theorem dX5_bestSelling_0 : decode cX5_bestSelling 0 = .ok (.aload_n 0, 1) := by decide +kernel
theorem dX5_bestSelling_1 : decode cX5_bestSelling 1 = .ok (.getfield 9, 3) := by decide +kernel
theorem dX5_bestSelling_4 : decode cX5_bestSelling 4 = .ok (.iload_n 1, 1) := by decide +kernel
theorem dX5_bestSelling_5 : decode cX5_bestSelling 5 = .ok (.iload_n 2, 1) := by decide +kernel
theorem dX5_bestSelling_6 : decode cX5_bestSelling 6 = .ok (.invokevirtual 182, 3) := by decide +kernel
theorem dX5_bestSelling_9 : decode cX5_bestSelling 9 = .ok (.ifCond .eq 5, 3) := by decide +kernel
theorem dX5_bestSelling_12 : decode cX5_bestSelling 12 = .ok (.iconst (-1), 1) := by decide +kernel
theorem dX5_bestSelling_13 : decode cX5_bestSelling 13 = .ok (.ireturn, 1) := by decide +kernel
theorem dX5_bestSelling_14 : decode cX5_bestSelling 14 = .ok (.aload_n 0, 1) := by decide +kernel
theorem dX5_bestSelling_15 : decode cX5_bestSelling 15 = .ok (.getfield 32, 3) := by decide +kernel
theorem dX5_bestSelling_18 : decode cX5_bestSelling 18 = .ok (.iconst 0, 1) := by decide +kernel
theorem dX5_bestSelling_19 : decode cX5_bestSelling 19 = .ok (.aload_n 0, 1) := by decide +kernel
theorem dX5_bestSelling_20 : decode cX5_bestSelling 20 = .ok (.getfield 9, 3) := by decide +kernel
theorem dX5_bestSelling_23 : decode cX5_bestSelling 23 = .ok (.getfield 64, 3) := by decide +kernel
theorem dX5_bestSelling_26 : decode cX5_bestSelling 26 = .ok (.invokestatic 68, 3) := by decide +kernel
theorem dX5_bestSelling_29 : decode cX5_bestSelling 29 = .ok (.iconst 0, 1) := by decide +kernel
theorem dX5_bestSelling_30 : decode cX5_bestSelling 30 = .ok (.istore_n 3, 1) := by decide +kernel
theorem dX5_bestSelling_31 : decode cX5_bestSelling 31 = .ok (.iload_n 3, 1) := by decide +kernel
theorem dX5_bestSelling_32 : decode cX5_bestSelling 32 = .ok (.iload_n 2, 1) := by decide +kernel
theorem dX5_bestSelling_33 : decode cX5_bestSelling 33 = .ok (.if_icmp .ge 25, 3) := by decide +kernel
theorem dX5_bestSelling_36 : decode cX5_bestSelling 36 = .ok (.aload_n 0, 1) := by decide +kernel
theorem dX5_bestSelling_37 : decode cX5_bestSelling 37 = .ok (.aload_n 0, 1) := by decide +kernel
theorem dX5_bestSelling_38 : decode cX5_bestSelling 38 = .ok (.getfield 32, 3) := by decide +kernel
theorem dX5_bestSelling_41 : decode cX5_bestSelling 41 = .ok (.iload_n 3, 1) := by decide +kernel
theorem dX5_bestSelling_42 : decode cX5_bestSelling 42 = .ok (.iconst 1, 1) := by decide +kernel
theorem dX5_bestSelling_43 : decode cX5_bestSelling 43 = .ok (.iload_n 1, 1) := by decide +kernel
theorem dX5_bestSelling_44 : decode cX5_bestSelling 44 = .ok (.ishl, 1) := by decide +kernel
theorem dX5_bestSelling_45 : decode cX5_bestSelling 45 = .ok (.aload_n 0, 1) := by decide +kernel
theorem dX5_bestSelling_46 : decode cX5_bestSelling 46 = .ok (.getfield 26, 3) := by decide +kernel
theorem dX5_bestSelling_49 : decode cX5_bestSelling 49 = .ok (.invokevirtual 81, 3) := by decide +kernel
theorem dX5_bestSelling_52 : decode cX5_bestSelling 52 = .ok (.iinc 3 1, 3) := by decide +kernel
theorem dX5_bestSelling_55 : decode cX5_bestSelling 55 = .ok (.goto (-24), 3) := by decide +kernel
theorem dX5_bestSelling_58 : decode cX5_bestSelling 58 = .ok (.aload_n 0, 1) := by decide +kernel
theorem dX5_bestSelling_59 : decode cX5_bestSelling 59 = .ok (.iload_n 1, 1) := by decide +kernel
theorem dX5_bestSelling_60 : decode cX5_bestSelling 60 = .ok (.iload_n 2, 1) := by decide +kernel
theorem dX5_bestSelling_61 : decode cX5_bestSelling 61 = .ok (.invokevirtual 214, 3) := by decide +kernel
theorem dX5_bestSelling_64 : decode cX5_bestSelling 64 = .ok (.ireturn, 1) := by decide +kernel
theorem dX5_bestSellingFromLine_0 : decode cX5_bestSellingFromLine 0 = .ok (.aload_n 0, 1) := by decide +kernel
theorem dX5_bestSellingFromLine_1 : decode cX5_bestSellingFromLine 1 = .ok (.getfield 32, 3) := by decide +kernel
theorem dX5_bestSellingFromLine_4 : decode cX5_bestSellingFromLine 4 = .ok (.iconst 0, 1) := by decide +kernel
theorem dX5_bestSellingFromLine_5 : decode cX5_bestSellingFromLine 5 = .ok (.aload_n 0, 1) := by decide +kernel
theorem dX5_bestSellingFromLine_6 : decode cX5_bestSellingFromLine 6 = .ok (.getfield 35, 3) := by decide +kernel
theorem dX5_bestSellingFromLine_9 : decode cX5_bestSellingFromLine 9 = .ok (.iconst 0, 1) := by decide +kernel
theorem dX5_bestSellingFromLine_10 : decode cX5_bestSellingFromLine 10 = .ok (.sipush 256, 3) := by decide +kernel
theorem dX5_bestSellingFromLine_13 : decode cX5_bestSellingFromLine 13 = .ok (.invokestatic 85, 3) := by decide +kernel
theorem dX5_bestSellingFromLine_16 : decode cX5_bestSellingFromLine 16 = .ok (.aload_n 0, 1) := by decide +kernel
theorem dX5_bestSellingFromLine_17 : decode cX5_bestSellingFromLine 17 = .ok (.getfield 35, 3) := by decide +kernel
theorem dX5_bestSellingFromLine_20 : decode cX5_bestSellingFromLine 20 = .ok (.aload_n 0, 1) := by decide +kernel
theorem dX5_bestSellingFromLine_21 : decode cX5_bestSellingFromLine 21 = .ok (.getfield 9, 3) := by decide +kernel
theorem dX5_bestSellingFromLine_24 : decode cX5_bestSellingFromLine 24 = .ok (.getfield 217, 3) := by decide +kernel
theorem dX5_bestSellingFromLine_27 : decode cX5_bestSellingFromLine 27 = .ok (.iload_n 1, 1) := by decide +kernel
theorem dX5_bestSellingFromLine_28 : decode cX5_bestSellingFromLine 28 = .ok (.iaload, 1) := by decide +kernel
theorem dX5_bestSellingFromLine_29 : decode cX5_bestSellingFromLine 29 = .ok (.invokestatic 205, 3) := by decide +kernel
theorem dX5_bestSellingFromLine_32 : decode cX5_bestSellingFromLine 32 = .ok (.iload_n 2, 1) := by decide +kernel
theorem dX5_bestSellingFromLine_33 : decode cX5_bestSellingFromLine 33 = .ok (.istore_n 3, 1) := by decide +kernel
theorem dX5_bestSellingFromLine_34 : decode cX5_bestSellingFromLine 34 = .ok (.iload_n 3, 1) := by decide +kernel
theorem dX5_bestSellingFromLine_35 : decode cX5_bestSellingFromLine 35 = .ok (.aload_n 0, 1) := by decide +kernel
theorem dX5_bestSellingFromLine_36 : decode cX5_bestSellingFromLine 36 = .ok (.getfield 9, 3) := by decide +kernel
theorem dX5_bestSellingFromLine_39 : decode cX5_bestSellingFromLine 39 = .ok (.getfield 78, 3) := by decide +kernel
theorem dX5_bestSellingFromLine_42 : decode cX5_bestSellingFromLine 42 = .ok (.if_icmp .ge 27, 3) := by decide +kernel
theorem dX5_bestSellingFromLine_45 : decode cX5_bestSellingFromLine 45 = .ok (.aload_n 0, 1) := by decide +kernel
theorem dX5_bestSellingFromLine_46 : decode cX5_bestSellingFromLine 46 = .ok (.aload_n 0, 1) := by decide +kernel
theorem dX5_bestSellingFromLine_47 : decode cX5_bestSellingFromLine 47 = .ok (.getfield 35, 3) := by decide +kernel
theorem dX5_bestSellingFromLine_50 : decode cX5_bestSellingFromLine 50 = .ok (.iload_n 3, 1) := by decide +kernel
theorem dX5_bestSellingFromLine_51 : decode cX5_bestSellingFromLine 51 = .ok (.iconst 1, 1) := by decide +kernel
theorem dX5_bestSellingFromLine_52 : decode cX5_bestSellingFromLine 52 = .ok (.iload_n 1, 1) := by decide +kernel
theorem dX5_bestSellingFromLine_53 : decode cX5_bestSellingFromLine 53 = .ok (.ishl, 1) := by decide +kernel
theorem dX5_bestSellingFromLine_54 : decode cX5_bestSellingFromLine 54 = .ok (.aload_n 0, 1) := by decide +kernel
theorem dX5_bestSellingFromLine_55 : decode cX5_bestSellingFromLine 55 = .ok (.iload_n 1, 1) := by decide +kernel
theorem dX5_bestSellingFromLine_56 : decode cX5_bestSellingFromLine 56 = .ok (.iload_n 3, 1) := by decide +kernel
theorem dX5_bestSellingFromLine_57 : decode cX5_bestSellingFromLine 57 = .ok (.invokevirtual 186, 3) := by decide +kernel
theorem dX5_bestSellingFromLine_60 : decode cX5_bestSellingFromLine 60 = .ok (.invokevirtual 81, 3) := by decide +kernel
theorem dX5_bestSellingFromLine_63 : decode cX5_bestSellingFromLine 63 = .ok (.iinc 3 1, 3) := by decide +kernel
theorem dX5_bestSellingFromLine_66 : decode cX5_bestSellingFromLine 66 = .ok (.goto (-32), 3) := by decide +kernel
theorem dX5_bestSellingFromLine_69 : decode cX5_bestSellingFromLine 69 = .ok (.aload_n 0, 1) := by decide +kernel
theorem dX5_bestSellingFromLine_70 : decode cX5_bestSellingFromLine 70 = .ok (.getfield 35, 3) := by decide +kernel
theorem dX5_bestSellingFromLine_73 : decode cX5_bestSellingFromLine 73 = .ok (.invokestatic 94, 3) := by decide +kernel
theorem dX5_bestSellingFromLine_76 : decode cX5_bestSellingFromLine 76 = .ok (.ireturn, 1) := by decide +kernel
theorem dX5_sellingWeek_0 : decode cX5_sellingWeek 0 = .ok (.iconst (-1), 1) := by decide +kernel
theorem dX5_sellingWeek_1 : decode cX5_sellingWeek 1 = .ok (.istore_n 2, 1) := by decide +kernel
theorem dX5_sellingWeek_2 : decode cX5_sellingWeek 2 = .ok (.aload_n 0, 1) := by decide +kernel
theorem dX5_sellingWeek_3 : decode cX5_sellingWeek 3 = .ok (.getfield 98, 3) := by decide +kernel
theorem dX5_sellingWeek_6 : decode cX5_sellingWeek 6 = .ok (.istore_n 3, 1) := by decide +kernel
theorem dX5_sellingWeek_7 : decode cX5_sellingWeek 7 = .ok (.aload_n 0, 1) := by decide +kernel
theorem dX5_sellingWeek_8 : decode cX5_sellingWeek 8 = .ok (.getfield 32, 3) := by decide +kernel
theorem dX5_sellingWeek_11 : decode cX5_sellingWeek 11 = .ok (.iconst 0, 1) := by decide +kernel
theorem dX5_sellingWeek_12 : decode cX5_sellingWeek 12 = .ok (.aload_n 0, 1) := by decide +kernel
theorem dX5_sellingWeek_13 : decode cX5_sellingWeek 13 = .ok (.getfield 9, 3) := by decide +kernel
theorem dX5_sellingWeek_16 : decode cX5_sellingWeek 16 = .ok (.getfield 64, 3) := by decide +kernel
theorem dX5_sellingWeek_19 : decode cX5_sellingWeek 19 = .ok (.invokestatic 68, 3) := by decide +kernel
theorem dX5_sellingWeek_22 : decode cX5_sellingWeek 22 = .ok (.iconst 0, 1) := by decide +kernel
theorem dX5_sellingWeek_23 : decode cX5_sellingWeek 23 = .ok (.istore 4, 2) := by decide +kernel
theorem dX5_sellingWeek_25 : decode cX5_sellingWeek 25 = .ok (.iload 4, 2) := by decide +kernel
theorem dX5_sellingWeek_27 : decode cX5_sellingWeek 27 = .ok (.aload_n 0, 1) := by decide +kernel
theorem dX5_sellingWeek_28 : decode cX5_sellingWeek 28 = .ok (.getfield 9, 3) := by decide +kernel
theorem dX5_sellingWeek_31 : decode cX5_sellingWeek 31 = .ok (.getfield 78, 3) := by decide +kernel
theorem dX5_sellingWeek_34 : decode cX5_sellingWeek 34 = .ok (.if_icmp .ge 60, 3) := by decide +kernel
theorem dX5_sellingWeek_37 : decode cX5_sellingWeek 37 = .ok (.aload_n 0, 1) := by decide +kernel
theorem dX5_sellingWeek_38 : decode cX5_sellingWeek 38 = .ok (.getfield 9, 3) := by decide +kernel
theorem dX5_sellingWeek_41 : decode cX5_sellingWeek 41 = .ok (.iload_n 1, 1) := by decide +kernel
theorem dX5_sellingWeek_42 : decode cX5_sellingWeek 42 = .ok (.iload 4, 2) := by decide +kernel
theorem dX5_sellingWeek_44 : decode cX5_sellingWeek 44 = .ok (.invokevirtual 182, 3) := by decide +kernel
theorem dX5_sellingWeek_47 : decode cX5_sellingWeek 47 = .ok (.ifCond .ne 47, 3) := by decide +kernel
theorem dX5_sellingWeek_50 : decode cX5_sellingWeek 50 = .ok (.aload_n 0, 1) := by decide +kernel
theorem dX5_sellingWeek_51 : decode cX5_sellingWeek 51 = .ok (.iload_n 1, 1) := by decide +kernel
theorem dX5_sellingWeek_52 : decode cX5_sellingWeek 52 = .ok (.iload 4, 2) := by decide +kernel
theorem dX5_sellingWeek_54 : decode cX5_sellingWeek 54 = .ok (.invokevirtual 214, 3) := by decide +kernel
theorem dX5_sellingWeek_57 : decode cX5_sellingWeek 57 = .ok (.istore 5, 2) := by decide +kernel
theorem dX5_sellingWeek_59 : decode cX5_sellingWeek 59 = .ok (.iload 5, 2) := by decide +kernel
theorem dX5_sellingWeek_61 : decode cX5_sellingWeek 61 = .ok (.iload_n 3, 1) := by decide +kernel
theorem dX5_sellingWeek_62 : decode cX5_sellingWeek 62 = .ok (.if_icmp .le 9, 3) := by decide +kernel
theorem dX5_sellingWeek_65 : decode cX5_sellingWeek 65 = .ok (.iload 5, 2) := by decide +kernel
theorem dX5_sellingWeek_67 : decode cX5_sellingWeek 67 = .ok (.istore_n 3, 1) := by decide +kernel
theorem dX5_sellingWeek_68 : decode cX5_sellingWeek 68 = .ok (.iload 4, 2) := by decide +kernel
theorem dX5_sellingWeek_70 : decode cX5_sellingWeek 70 = .ok (.istore_n 2, 1) := by decide +kernel
theorem dX5_sellingWeek_71 : decode cX5_sellingWeek 71 = .ok (.aload_n 0, 1) := by decide +kernel
theorem dX5_sellingWeek_72 : decode cX5_sellingWeek 72 = .ok (.aload_n 0, 1) := by decide +kernel
theorem dX5_sellingWeek_73 : decode cX5_sellingWeek 73 = .ok (.getfield 32, 3) := by decide +kernel
theorem dX5_sellingWeek_76 : decode cX5_sellingWeek 76 = .ok (.iload 4, 2) := by decide +kernel
theorem dX5_sellingWeek_78 : decode cX5_sellingWeek 78 = .ok (.iconst 1, 1) := by decide +kernel
theorem dX5_sellingWeek_79 : decode cX5_sellingWeek 79 = .ok (.iload_n 1, 1) := by decide +kernel
theorem dX5_sellingWeek_80 : decode cX5_sellingWeek 80 = .ok (.ishl, 1) := by decide +kernel
theorem dX5_sellingWeek_81 : decode cX5_sellingWeek 81 = .ok (.aload_n 0, 1) := by decide +kernel
theorem dX5_sellingWeek_82 : decode cX5_sellingWeek 82 = .ok (.getfield 26, 3) := by decide +kernel
theorem dX5_sellingWeek_85 : decode cX5_sellingWeek 85 = .ok (.invokevirtual 81, 3) := by decide +kernel
theorem dX5_sellingWeek_88 : decode cX5_sellingWeek 88 = .ok (.iinc 4 1, 3) := by decide +kernel
theorem dX5_sellingWeek_91 : decode cX5_sellingWeek 91 = .ok (.goto (-66), 3) := by decide +kernel
theorem dX5_sellingWeek_94 : decode cX5_sellingWeek 94 = .ok (.iload_n 2, 1) := by decide +kernel
theorem dX5_sellingWeek_95 : decode cX5_sellingWeek 95 = .ok (.ireturn, 1) := by decide +kernel
theorem dX6_init_0 : decode cX6_init 0 = .ok (.aload_n 0, 1) := by decide +kernel
theorem dX6_init_1 : decode cX6_init 1 = .ok (.invokespecial 3, 3) := by decide +kernel
theorem dX6_init_4 : decode cX6_init 4 = .ok (.aload_n 0, 1) := by decide +kernel
theorem dX6_init_5 : decode cX6_init 5 = .ok (.new 9, 3) := by decide +kernel
theorem dX6_init_8 : decode cX6_init 8 = .ok (.dup, 1) := by decide +kernel
theorem dX6_init_9 : decode cX6_init 9 = .ok (.invokespecial 11, 3) := by decide +kernel
theorem dX6_init_12 : decode cX6_init 12 = .ok (.putfield 12, 3) := by decide +kernel
theorem dX6_init_15 : decode cX6_init 15 = .ok (.return_, 1) := by decide +kernel
theorem dX6_open_0 : decode cX6_open 0 = .ok (.aload_n 0, 1) := by decide +kernel
theorem dX6_open_1 : decode cX6_open 1 = .ok (.getfield 12, 3) := by decide +kernel
theorem dX6_open_4 : decode cX6_open 4 = .ok (.aload_n 1, 1) := by decide +kernel
theorem dX6_open_5 : decode cX6_open 5 = .ok (.iload_n 2, 1) := by decide +kernel
theorem dX6_open_6 : decode cX6_open 6 = .ok (.invokevirtual 18, 3) := by decide +kernel
theorem dX6_open_9 : decode cX6_open 9 = .ok (.aload_n 0, 1) := by decide +kernel
theorem dX6_open_10 : decode cX6_open 10 = .ok (.iconst (-1), 1) := by decide +kernel
theorem dX6_open_11 : decode cX6_open 11 = .ok (.putfield 22, 3) := by decide +kernel
theorem dX6_open_14 : decode cX6_open 14 = .ok (.aload_n 0, 1) := by decide +kernel
theorem dX6_open_15 : decode cX6_open 15 = .ok (.invokevirtual 26, 3) := by decide +kernel
theorem dX6_open_18 : decode cX6_open 18 = .ok (.aload_n 0, 1) := by decide +kernel
theorem dX6_open_19 : decode cX6_open 19 = .ok (.iconst 0, 1) := by decide +kernel
theorem dX6_open_20 : decode cX6_open 20 = .ok (.putfield 29, 3) := by decide +kernel
theorem dX6_open_23 : decode cX6_open 23 = .ok (.aload_n 0, 1) := by decide +kernel
theorem dX6_open_24 : decode cX6_open 24 = .ok (.iconst 0, 1) := by decide +kernel
theorem dX6_open_25 : decode cX6_open 25 = .ok (.putfield 32, 3) := by decide +kernel
theorem dX6_open_28 : decode cX6_open 28 = .ok (.aload_n 0, 1) := by decide +kernel
theorem dX6_open_29 : decode cX6_open 29 = .ok (.iconst 0, 1) := by decide +kernel
theorem dX6_open_30 : decode cX6_open 30 = .ok (.putfield 35, 3) := by decide +kernel
theorem dX6_open_33 : decode cX6_open 33 = .ok (.aload_n 0, 1) := by decide +kernel
theorem dX6_open_34 : decode cX6_open 34 = .ok (.aload_n 3, 1) := by decide +kernel
theorem dX6_open_35 : decode cX6_open 35 = .ok (.putfield 38, 3) := by decide +kernel
theorem dX6_open_38 : decode cX6_open 38 = .ok (.aload_n 0, 1) := by decide +kernel
theorem dX6_open_39 : decode cX6_open 39 = .ok (.iload 4, 2) := by decide +kernel
theorem dX6_open_41 : decode cX6_open 41 = .ok (.putfield 42, 3) := by decide +kernel
theorem dX6_open_44 : decode cX6_open 44 = .ok (.return_, 1) := by decide +kernel
theorem dX6_next_0 : decode cX6_next 0 = .ok (.aload_n 0, 1) := by decide +kernel
theorem dX6_next_1 : decode cX6_next 1 = .ok (.getfield 22, 3) := by decide +kernel
theorem dX6_next_4 : decode cX6_next 4 = .ok (.iconst (-1), 1) := by decide +kernel
theorem dX6_next_5 : decode cX6_next 5 = .ok (.if_icmp .eq 22, 3) := by decide +kernel
theorem dX6_next_8 : decode cX6_next 8 = .ok (.aload_n 0, 1) := by decide +kernel
theorem dX6_next_9 : decode cX6_next 9 = .ok (.getfield 46, 3) := by decide +kernel
theorem dX6_next_12 : decode cX6_next 12 = .ok (.bipush 46, 2) := by decide +kernel
theorem dX6_next_14 : decode cX6_next 14 = .ok (.if_icmp .eq 71, 3) := by decide +kernel
theorem dX6_next_17 : decode cX6_next 17 = .ok (.aload_n 0, 1) := by decide +kernel
theorem dX6_next_18 : decode cX6_next 18 = .ok (.getfield 22, 3) := by decide +kernel
theorem dX6_next_21 : decode cX6_next 21 = .ok (.sipush 400, 3) := by decide +kernel
theorem dX6_next_24 : decode cX6_next 24 = .ok (.if_icmp .ge 61, 3) := by decide +kernel
theorem dX6_next_27 : decode cX6_next 27 = .ok (.aload_n 0, 1) := by decide +kernel
theorem dX6_next_28 : decode cX6_next 28 = .ok (.dup, 1) := by decide +kernel
theorem dX6_next_29 : decode cX6_next 29 = .ok (.getfield 22, 3) := by decide +kernel
theorem dX6_next_32 : decode cX6_next 32 = .ok (.iconst 1, 1) := by decide +kernel
theorem dX6_next_33 : decode cX6_next 33 = .ok (.iadd, 1) := by decide +kernel
theorem dX6_next_34 : decode cX6_next 34 = .ok (.putfield 22, 3) := by decide +kernel
theorem dX6_next_37 : decode cX6_next 37 = .ok (.aload_n 0, 1) := by decide +kernel
theorem dX6_next_38 : decode cX6_next 38 = .ok (.aload_n 0, 1) := by decide +kernel
theorem dX6_next_39 : decode cX6_next 39 = .ok (.getfield 12, 3) := by decide +kernel
theorem dX6_next_42 : decode cX6_next 42 = .ok (.getfield 49, 3) := by decide +kernel
theorem dX6_next_45 : decode cX6_next 45 = .ok (.aload_n 0, 1) := by decide +kernel
theorem dX6_next_46 : decode cX6_next 46 = .ok (.getfield 22, 3) := by decide +kernel
theorem dX6_next_49 : decode cX6_next 49 = .ok (.iaload, 1) := by decide +kernel
theorem dX6_next_50 : decode cX6_next 50 = .ok (.putfield 46, 3) := by decide +kernel
theorem dX6_next_53 : decode cX6_next 53 = .ok (.aload_n 0, 1) := by decide +kernel
theorem dX6_next_54 : decode cX6_next 54 = .ok (.aload_n 0, 1) := by decide +kernel
theorem dX6_next_55 : decode cX6_next 55 = .ok (.getfield 12, 3) := by decide +kernel
theorem dX6_next_58 : decode cX6_next 58 = .ok (.getfield 53, 3) := by decide +kernel
theorem dX6_next_61 : decode cX6_next 61 = .ok (.aload_n 0, 1) := by decide +kernel
theorem dX6_next_62 : decode cX6_next 62 = .ok (.getfield 22, 3) := by decide +kernel
theorem dX6_next_65 : decode cX6_next 65 = .ok (.iaload, 1) := by decide +kernel
theorem dX6_next_66 : decode cX6_next 66 = .ok (.putfield 56, 3) := by decide +kernel
theorem dX6_next_69 : decode cX6_next 69 = .ok (.aload_n 0, 1) := by decide +kernel
theorem dX6_next_70 : decode cX6_next 70 = .ok (.aload_n 0, 1) := by decide +kernel
theorem dX6_next_71 : decode cX6_next 71 = .ok (.getfield 12, 3) := by decide +kernel
theorem dX6_next_74 : decode cX6_next 74 = .ok (.getfield 59, 3) := by decide +kernel
theorem dX6_next_77 : decode cX6_next 77 = .ok (.aload_n 0, 1) := by decide +kernel
theorem dX6_next_78 : decode cX6_next 78 = .ok (.getfield 22, 3) := by decide +kernel
theorem dX6_next_81 : decode cX6_next 81 = .ok (.iaload, 1) := by decide +kernel
theorem dX6_next_82 : decode cX6_next 82 = .ok (.putfield 62, 3) := by decide +kernel
theorem dX6_next_85 : decode cX6_next 85 = .ok (.return_, 1) := by decide +kernel
theorem dX6_readBook_0 : decode cX6_readBook 0 = .ok (.aload_n 3, 1) := by decide +kernel
theorem dX6_readBook_1 : decode cX6_readBook 1 = .ok (.invokevirtual 65, 3) := by decide +kernel
theorem dX6_readBook_4 : decode cX6_readBook 4 = .ok (.aload_n 0, 1) := by decide +kernel
theorem dX6_readBook_5 : decode cX6_readBook 5 = .ok (.aload_n 1, 1) := by decide +kernel
theorem dX6_readBook_6 : decode cX6_readBook 6 = .ok (.iload_n 2, 1) := by decide +kernel
theorem dX6_readBook_7 : decode cX6_readBook 7 = .ok (.aload_n 3, 1) := by decide +kernel
theorem dX6_readBook_8 : decode cX6_readBook 8 = .ok (.getfield 70, 3) := by decide +kernel
theorem dX6_readBook_11 : decode cX6_readBook 11 = .ok (.iconst 0, 1) := by decide +kernel
theorem dX6_readBook_12 : decode cX6_readBook 12 = .ok (.invokevirtual 71, 3) := by decide +kernel
theorem dX6_readBook_15 : decode cX6_readBook 15 = .ok (.iconst 0, 1) := by decide +kernel
theorem dX6_readBook_16 : decode cX6_readBook 16 = .ok (.istore 4, 2) := by decide +kernel
theorem dX6_readBook_18 : decode cX6_readBook 18 = .ok (.iload 4, 2) := by decide +kernel
theorem dX6_readBook_20 : decode cX6_readBook 20 = .ok (.bipush 24, 2) := by decide +kernel
theorem dX6_readBook_22 : decode cX6_readBook 22 = .ok (.if_icmp .gt 178, 3) := by decide +kernel
theorem dX6_readBook_25 : decode cX6_readBook 25 = .ok (.aload_n 0, 1) := by decide +kernel
theorem dX6_readBook_26 : decode cX6_readBook 26 = .ok (.getfield 29, 3) := by decide +kernel
theorem dX6_readBook_29 : decode cX6_readBook 29 = .ok (.ifCond .ne 171, 3) := by decide +kernel
theorem dX6_readBook_32 : decode cX6_readBook 32 = .ok (.aload_n 0, 1) := by decide +kernel
theorem dX6_readBook_33 : decode cX6_readBook 33 = .ok (.iload 4, 2) := by decide +kernel
theorem dX6_readBook_35 : decode cX6_readBook 35 = .ok (.bipush 24, 2) := by decide +kernel
theorem dX6_readBook_37 : decode cX6_readBook 37 = .ok (.if_icmp .lt 7, 3) := by decide +kernel
theorem dX6_readBook_40 : decode cX6_readBook 40 = .ok (.iconst 1, 1) := by decide +kernel
theorem dX6_readBook_41 : decode cX6_readBook 41 = .ok (.goto 4, 3) := by decide +kernel
theorem dX6_readBook_44 : decode cX6_readBook 44 = .ok (.iconst 0, 1) := by decide +kernel
theorem dX6_readBook_45 : decode cX6_readBook 45 = .ok (.invokevirtual 75, 3) := by decide +kernel
theorem dX6_readBook_48 : decode cX6_readBook 48 = .ok (.istore 5, 2) := by decide +kernel
theorem dX6_readBook_50 : decode cX6_readBook 50 = .ok (.iload 5, 2) := by decide +kernel
set_option maxRecDepth 20000 in
theorem dX6_readBook_52 : decode cX6_readBook 52 = .ok (.tableswitch 132 0 9 #[56, 64, 132, 132, 72, 80, 95, 132, 103, 118], 56) := by decide +kernel
theorem dX6_readBook_108 : decode cX6_readBook 108 = .ok (.aload_n 0, 1) := by decide +kernel
theorem dX6_readBook_109 : decode cX6_readBook 109 = .ok (.aload_n 3, 1) := by decide +kernel
theorem dX6_readBook_110 : decode cX6_readBook 110 = .ok (.invokevirtual 79, 3) := by decide +kernel
theorem dX6_readBook_113 : decode cX6_readBook 113 = .ok (.goto 71, 3) := by decide +kernel
theorem dX6_readBook_116 : decode cX6_readBook 116 = .ok (.aload_n 0, 1) := by decide +kernel
theorem dX6_readBook_117 : decode cX6_readBook 117 = .ok (.aload_n 3, 1) := by decide +kernel
theorem dX6_readBook_118 : decode cX6_readBook 118 = .ok (.invokevirtual 83, 3) := by decide +kernel
theorem dX6_readBook_121 : decode cX6_readBook 121 = .ok (.goto 63, 3) := by decide +kernel
theorem dX6_readBook_124 : decode cX6_readBook 124 = .ok (.aload_n 0, 1) := by decide +kernel
theorem dX6_readBook_125 : decode cX6_readBook 125 = .ok (.aload_n 3, 1) := by decide +kernel
theorem dX6_readBook_126 : decode cX6_readBook 126 = .ok (.invokevirtual 86, 3) := by decide +kernel
theorem dX6_readBook_129 : decode cX6_readBook 129 = .ok (.goto 55, 3) := by decide +kernel
theorem dX6_readBook_132 : decode cX6_readBook 132 = .ok (.aload_n 3, 1) := by decide +kernel
theorem dX6_readBook_133 : decode cX6_readBook 133 = .ok (.aload_n 0, 1) := by decide +kernel
theorem dX6_readBook_134 : decode cX6_readBook 134 = .ok (.iconst 0, 1) := by decide +kernel
theorem dX6_readBook_135 : decode cX6_readBook 135 = .ok (.sipush 1000, 3) := by decide +kernel
theorem dX6_readBook_138 : decode cX6_readBook 138 = .ok (.invokevirtual 89, 3) := by decide +kernel
theorem dX6_readBook_141 : decode cX6_readBook 141 = .ok (.putfield 93, 3) := by decide +kernel
theorem dX6_readBook_144 : decode cX6_readBook 144 = .ok (.goto 40, 3) := by decide +kernel
theorem dX6_readBook_147 : decode cX6_readBook 147 = .ok (.aload_n 0, 1) := by decide +kernel
theorem dX6_readBook_148 : decode cX6_readBook 148 = .ok (.aload_n 3, 1) := by decide +kernel
theorem dX6_readBook_149 : decode cX6_readBook 149 = .ok (.invokevirtual 96, 3) := by decide +kernel
theorem dX6_readBook_152 : decode cX6_readBook 152 = .ok (.goto 32, 3) := by decide +kernel
theorem dX6_readBook_155 : decode cX6_readBook 155 = .ok (.aload_n 3, 1) := by decide +kernel
theorem dX6_readBook_156 : decode cX6_readBook 156 = .ok (.aload_n 0, 1) := by decide +kernel
theorem dX6_readBook_157 : decode cX6_readBook 157 = .ok (.iconst 0, 1) := by decide +kernel
theorem dX6_readBook_158 : decode cX6_readBook 158 = .ok (.sipush 9999, 3) := by decide +kernel
theorem dX6_readBook_161 : decode cX6_readBook 161 = .ok (.invokevirtual 89, 3) := by decide +kernel
theorem dX6_readBook_164 : decode cX6_readBook 164 = .ok (.putfield 99, 3) := by decide +kernel
theorem dX6_readBook_167 : decode cX6_readBook 167 = .ok (.goto 17, 3) := by decide +kernel
theorem dX6_readBook_170 : decode cX6_readBook 170 = .ok (.aload_n 3, 1) := by decide +kernel
theorem dX6_readBook_171 : decode cX6_readBook 171 = .ok (.aload_n 0, 1) := by decide +kernel
theorem dX6_readBook_172 : decode cX6_readBook 172 = .ok (.iconst 1, 1) := by decide +kernel
theorem dX6_readBook_173 : decode cX6_readBook 173 = .ok (.bipush 60, 2) := by decide +kernel
theorem dX6_readBook_175 : decode cX6_readBook 175 = .ok (.invokevirtual 89, 3) := by decide +kernel
theorem dX6_readBook_178 : decode cX6_readBook 178 = .ok (.putfield 102, 3) := by decide +kernel
theorem dX6_readBook_181 : decode cX6_readBook 181 = .ok (.goto 3, 3) := by decide +kernel
theorem dX6_readBook_184 : decode cX6_readBook 184 = .ok (.aload_n 0, 1) := by decide +kernel
theorem dX6_readBook_185 : decode cX6_readBook 185 = .ok (.invokevirtual 105, 3) := by decide +kernel
theorem dX6_readBook_188 : decode cX6_readBook 188 = .ok (.ifCond .eq 6, 3) := by decide +kernel
theorem dX6_readBook_191 : decode cX6_readBook 191 = .ok (.goto 9, 3) := by decide +kernel
theorem dX6_readBook_194 : decode cX6_readBook 194 = .ok (.iinc 4 1, 3) := by decide +kernel
theorem dX6_readBook_197 : decode cX6_readBook 197 = .ok (.goto (-179), 3) := by decide +kernel
theorem dX6_readBook_200 : decode cX6_readBook 200 = .ok (.aload_n 0, 1) := by decide +kernel
theorem dX6_readBook_201 : decode cX6_readBook 201 = .ok (.getfield 29, 3) := by decide +kernel
theorem dX6_readBook_204 : decode cX6_readBook 204 = .ok (.ireturn, 1) := by decide +kernel
theorem dX6_readRule_0 : decode cX6_readRule 0 = .ok (.aload_n 3, 1) := by decide +kernel
theorem dX6_readRule_1 : decode cX6_readRule 1 = .ok (.invokevirtual 109, 3) := by decide +kernel
theorem dX6_readRule_4 : decode cX6_readRule 4 = .ok (.aload_n 0, 1) := by decide +kernel
theorem dX6_readRule_5 : decode cX6_readRule 5 = .ok (.aload_n 1, 1) := by decide +kernel
theorem dX6_readRule_6 : decode cX6_readRule 6 = .ok (.iload_n 2, 1) := by decide +kernel
theorem dX6_readRule_7 : decode cX6_readRule 7 = .ok (.aload_n 3, 1) := by decide +kernel
theorem dX6_readRule_8 : decode cX6_readRule 8 = .ok (.getfield 112, 3) := by decide +kernel
theorem dX6_readRule_11 : decode cX6_readRule 11 = .ok (.iconst 1, 1) := by decide +kernel
theorem dX6_readRule_12 : decode cX6_readRule 12 = .ok (.invokevirtual 71, 3) := by decide +kernel
theorem dX6_readRule_15 : decode cX6_readRule 15 = .ok (.iconst 0, 1) := by decide +kernel
theorem dX6_readRule_16 : decode cX6_readRule 16 = .ok (.istore 4, 2) := by decide +kernel
theorem dX6_readRule_18 : decode cX6_readRule 18 = .ok (.iload 4, 2) := by decide +kernel
theorem dX6_readRule_20 : decode cX6_readRule 20 = .ok (.bipush 12, 2) := by decide +kernel
theorem dX6_readRule_22 : decode cX6_readRule 22 = .ok (.if_icmp .gt 78, 3) := by decide +kernel
theorem dX6_readRule_25 : decode cX6_readRule 25 = .ok (.aload_n 0, 1) := by decide +kernel
theorem dX6_readRule_26 : decode cX6_readRule 26 = .ok (.getfield 29, 3) := by decide +kernel
theorem dX6_readRule_29 : decode cX6_readRule 29 = .ok (.ifCond .ne 71, 3) := by decide +kernel
theorem dX6_readRule_32 : decode cX6_readRule 32 = .ok (.aload_n 0, 1) := by decide +kernel
theorem dX6_readRule_33 : decode cX6_readRule 33 = .ok (.iload 4, 2) := by decide +kernel
theorem dX6_readRule_35 : decode cX6_readRule 35 = .ok (.bipush 12, 2) := by decide +kernel
theorem dX6_readRule_37 : decode cX6_readRule 37 = .ok (.if_icmp .lt 7, 3) := by decide +kernel
theorem dX6_readRule_40 : decode cX6_readRule 40 = .ok (.iconst 1, 1) := by decide +kernel
theorem dX6_readRule_41 : decode cX6_readRule 41 = .ok (.goto 4, 3) := by decide +kernel
theorem dX6_readRule_44 : decode cX6_readRule 44 = .ok (.iconst 0, 1) := by decide +kernel
theorem dX6_readRule_45 : decode cX6_readRule 45 = .ok (.invokevirtual 75, 3) := by decide +kernel
theorem dX6_readRule_48 : decode cX6_readRule 48 = .ok (.istore 5, 2) := by decide +kernel
theorem dX6_readRule_50 : decode cX6_readRule 50 = .ok (.iload 5, 2) := by decide +kernel
theorem dX6_readRule_52 : decode cX6_readRule 52 = .ok (.bipush 14, 2) := by decide +kernel
theorem dX6_readRule_54 : decode cX6_readRule 54 = .ok (.if_icmp .ne 11, 3) := by decide +kernel
theorem dX6_readRule_57 : decode cX6_readRule 57 = .ok (.aload_n 0, 1) := by decide +kernel
theorem dX6_readRule_58 : decode cX6_readRule 58 = .ok (.aload_n 3, 1) := by decide +kernel
theorem dX6_readRule_59 : decode cX6_readRule 59 = .ok (.invokevirtual 113, 3) := by decide +kernel
theorem dX6_readRule_62 : decode cX6_readRule 62 = .ok (.goto 22, 3) := by decide +kernel
theorem dX6_readRule_65 : decode cX6_readRule 65 = .ok (.iload 5, 2) := by decide +kernel
theorem dX6_readRule_67 : decode cX6_readRule 67 = .ok (.bipush 15, 2) := by decide +kernel
theorem dX6_readRule_69 : decode cX6_readRule 69 = .ok (.if_icmp .ne 15, 3) := by decide +kernel
theorem dX6_readRule_72 : decode cX6_readRule 72 = .ok (.aload_n 3, 1) := by decide +kernel
theorem dX6_readRule_73 : decode cX6_readRule 73 = .ok (.aload_n 0, 1) := by decide +kernel
theorem dX6_readRule_74 : decode cX6_readRule 74 = .ok (.iconst 0, 1) := by decide +kernel
theorem dX6_readRule_75 : decode cX6_readRule 75 = .ok (.sipush 9999, 3) := by decide +kernel
theorem dX6_readRule_78 : decode cX6_readRule 78 = .ok (.invokevirtual 89, 3) := by decide +kernel
theorem dX6_readRule_81 : decode cX6_readRule 81 = .ok (.putfield 117, 3) := by decide +kernel
theorem dX6_readRule_84 : decode cX6_readRule 84 = .ok (.aload_n 0, 1) := by decide +kernel
theorem dX6_readRule_85 : decode cX6_readRule 85 = .ok (.invokevirtual 105, 3) := by decide +kernel
theorem dX6_readRule_88 : decode cX6_readRule 88 = .ok (.ifCond .eq 6, 3) := by decide +kernel
theorem dX6_readRule_91 : decode cX6_readRule 91 = .ok (.goto 9, 3) := by decide +kernel
theorem dX6_readRule_94 : decode cX6_readRule 94 = .ok (.iinc 4 1, 3) := by decide +kernel
theorem dX6_readRule_97 : decode cX6_readRule 97 = .ok (.goto (-79), 3) := by decide +kernel
theorem dX6_readRule_100 : decode cX6_readRule 100 = .ok (.aload_n 0, 1) := by decide +kernel
theorem dX6_readRule_101 : decode cX6_readRule 101 = .ok (.getfield 29, 3) := by decide +kernel
theorem dX6_readRule_104 : decode cX6_readRule 104 = .ok (.ireturn, 1) := by decide +kernel
theorem dX6_startClause_0 : decode cX6_startClause 0 = .ok (.aload_n 0, 1) := by decide +kernel
theorem dX6_startClause_1 : decode cX6_startClause 1 = .ok (.getfield 46, 3) := by decide +kernel
theorem dX6_startClause_4 : decode cX6_startClause 4 = .ok (.istore_n 2, 1) := by decide +kernel
theorem dX6_startClause_5 : decode cX6_startClause 5 = .ok (.aload_n 0, 1) := by decide +kernel
theorem dX6_startClause_6 : decode cX6_startClause 6 = .ok (.invokevirtual 120, 3) := by decide +kernel
theorem dX6_startClause_9 : decode cX6_startClause 9 = .ok (.ifCond .ne 10, 3) := by decide +kernel
theorem dX6_startClause_12 : decode cX6_startClause 12 = .ok (.aload_n 0, 1) := by decide +kernel
theorem dX6_startClause_13 : decode cX6_startClause 13 = .ok (.iconst 0, 1) := by decide +kernel
theorem dX6_startClause_14 : decode cX6_startClause 14 = .ok (.invokevirtual 123, 3) := by decide +kernel
theorem dX6_startClause_17 : decode cX6_startClause 17 = .ok (.iconst (-1), 1) := by decide +kernel
theorem dX6_startClause_18 : decode cX6_startClause 18 = .ok (.ireturn, 1) := by decide +kernel
theorem dX6_startClause_19 : decode cX6_startClause 19 = .ok (.iload_n 1, 1) := by decide +kernel
theorem dX6_startClause_20 : decode cX6_startClause 20 = .ok (.ifCond .ne 14, 3) := by decide +kernel
theorem dX6_startClause_23 : decode cX6_startClause 23 = .ok (.aload_n 0, 1) := by decide +kernel
theorem dX6_startClause_24 : decode cX6_startClause 24 = .ok (.getfield 35, 3) := by decide +kernel
theorem dX6_startClause_27 : decode cX6_startClause 27 = .ok (.iload_n 2, 1) := by decide +kernel
theorem dX6_startClause_28 : decode cX6_startClause 28 = .ok (.ishr, 1) := by decide +kernel
theorem dX6_startClause_29 : decode cX6_startClause 29 = .ok (.iconst 1, 1) := by decide +kernel
theorem dX6_startClause_30 : decode cX6_startClause 30 = .ok (.iand, 1) := by decide +kernel
theorem dX6_startClause_31 : decode cX6_startClause 31 = .ok (.ifCond .eq 10, 3) := by decide +kernel
theorem dX6_startClause_34 : decode cX6_startClause 34 = .ok (.aload_n 0, 1) := by decide +kernel
theorem dX6_startClause_35 : decode cX6_startClause 35 = .ok (.iconst 4, 1) := by decide +kernel
theorem dX6_startClause_36 : decode cX6_startClause 36 = .ok (.invokevirtual 123, 3) := by decide +kernel
theorem dX6_startClause_39 : decode cX6_startClause 39 = .ok (.iconst (-1), 1) := by decide +kernel
theorem dX6_startClause_40 : decode cX6_startClause 40 = .ok (.ireturn, 1) := by decide +kernel
theorem dX6_startClause_41 : decode cX6_startClause 41 = .ok (.aload_n 0, 1) := by decide +kernel
theorem dX6_startClause_42 : decode cX6_startClause 42 = .ok (.invokevirtual 127, 3) := by decide +kernel
theorem dX6_startClause_45 : decode cX6_startClause 45 = .ok (.ifCond .eq 15, 3) := by decide +kernel
theorem dX6_startClause_48 : decode cX6_startClause 48 = .ok (.aload_n 0, 1) := by decide +kernel
theorem dX6_startClause_49 : decode cX6_startClause 49 = .ok (.dup, 1) := by decide +kernel
theorem dX6_startClause_50 : decode cX6_startClause 50 = .ok (.getfield 35, 3) := by decide +kernel
theorem dX6_startClause_53 : decode cX6_startClause 53 = .ok (.iconst 1, 1) := by decide +kernel
theorem dX6_startClause_54 : decode cX6_startClause 54 = .ok (.iload_n 2, 1) := by decide +kernel
theorem dX6_startClause_55 : decode cX6_startClause 55 = .ok (.ishl, 1) := by decide +kernel
theorem dX6_startClause_56 : decode cX6_startClause 56 = .ok (.ior, 1) := by decide +kernel
theorem dX6_startClause_57 : decode cX6_startClause 57 = .ok (.putfield 35, 3) := by decide +kernel
theorem dX6_startClause_60 : decode cX6_startClause 60 = .ok (.aload_n 0, 1) := by decide +kernel
theorem dX6_startClause_61 : decode cX6_startClause 61 = .ok (.invokevirtual 26, 3) := by decide +kernel
theorem dX6_startClause_64 : decode cX6_startClause 64 = .ok (.iload_n 2, 1) := by decide +kernel
theorem dX6_startClause_65 : decode cX6_startClause 65 = .ok (.ireturn, 1) := by decide +kernel
theorem dX6_isClause_0 : decode cX6_isClause 0 = .ok (.aload_n 0, 1) := by decide +kernel
theorem dX6_isClause_1 : decode cX6_isClause 1 = .ok (.getfield 42, 3) := by decide +kernel
theorem dX6_isClause_4 : decode cX6_isClause 4 = .ok (.ifCond .eq 27, 3) := by decide +kernel
theorem dX6_isClause_7 : decode cX6_isClause 7 = .ok (.aload_n 0, 1) := by decide +kernel
theorem dX6_isClause_8 : decode cX6_isClause 8 = .ok (.getfield 46, 3) := by decide +kernel
theorem dX6_isClause_11 : decode cX6_isClause 11 = .ok (.bipush 14, 2) := by decide +kernel
theorem dX6_isClause_13 : decode cX6_isClause 13 = .ok (.if_icmp .eq 12, 3) := by decide +kernel
theorem dX6_isClause_16 : decode cX6_isClause 16 = .ok (.aload_n 0, 1) := by decide +kernel
theorem dX6_isClause_17 : decode cX6_isClause 17 = .ok (.getfield 46, 3) := by decide +kernel
theorem dX6_isClause_20 : decode cX6_isClause 20 = .ok (.bipush 15, 2) := by decide +kernel
theorem dX6_isClause_22 : decode cX6_isClause 22 = .ok (.if_icmp .ne 7, 3) := by decide +kernel
theorem dX6_isClause_25 : decode cX6_isClause 25 = .ok (.iconst 1, 1) := by decide +kernel
theorem dX6_isClause_26 : decode cX6_isClause 26 = .ok (.goto 4, 3) := by decide +kernel
theorem dX6_isClause_29 : decode cX6_isClause 29 = .ok (.iconst 0, 1) := by decide +kernel
theorem dX6_isClause_30 : decode cX6_isClause 30 = .ok (.ireturn, 1) := by decide +kernel
theorem dX6_isClause_31 : decode cX6_isClause 31 = .ok (.aload_n 0, 1) := by decide +kernel
theorem dX6_isClause_32 : decode cX6_isClause 32 = .ok (.getfield 46, 3) := by decide +kernel
theorem dX6_isClause_35 : decode cX6_isClause 35 = .ok (.ifCond .eq 35, 3) := by decide +kernel
theorem dX6_isClause_38 : decode cX6_isClause 38 = .ok (.aload_n 0, 1) := by decide +kernel
theorem dX6_isClause_39 : decode cX6_isClause 39 = .ok (.getfield 46, 3) := by decide +kernel
theorem dX6_isClause_42 : decode cX6_isClause 42 = .ok (.iconst 1, 1) := by decide +kernel
theorem dX6_isClause_43 : decode cX6_isClause 43 = .ok (.if_icmp .eq 27, 3) := by decide +kernel
theorem dX6_isClause_46 : decode cX6_isClause 46 = .ok (.aload_n 0, 1) := by decide +kernel
theorem dX6_isClause_47 : decode cX6_isClause 47 = .ok (.getfield 46, 3) := by decide +kernel
theorem dX6_isClause_50 : decode cX6_isClause 50 = .ok (.iconst 4, 1) := by decide +kernel
theorem dX6_isClause_51 : decode cX6_isClause 51 = .ok (.if_icmp .eq 19, 3) := by decide +kernel
theorem dX6_isClause_54 : decode cX6_isClause 54 = .ok (.aload_n 0, 1) := by decide +kernel
theorem dX6_isClause_55 : decode cX6_isClause 55 = .ok (.getfield 46, 3) := by decide +kernel
theorem dX6_isClause_58 : decode cX6_isClause 58 = .ok (.bipush 15, 2) := by decide +kernel
theorem dX6_isClause_60 : decode cX6_isClause 60 = .ok (.if_icmp .eq 14, 3) := by decide +kernel
theorem dX6_isClause_63 : decode cX6_isClause 63 = .ok (.aload_n 0, 1) := by decide +kernel
theorem dX6_isClause_64 : decode cX6_isClause 64 = .ok (.invokevirtual 127, 3) := by decide +kernel
theorem dX6_isClause_67 : decode cX6_isClause 67 = .ok (.ifCond .eq 7, 3) := by decide +kernel
theorem dX6_isClause_70 : decode cX6_isClause 70 = .ok (.iconst 1, 1) := by decide +kernel
theorem dX6_isClause_71 : decode cX6_isClause 71 = .ok (.goto 4, 3) := by decide +kernel
theorem dX6_isClause_74 : decode cX6_isClause 74 = .ok (.iconst 0, 1) := by decide +kernel
theorem dX6_isClause_75 : decode cX6_isClause 75 = .ok (.ireturn, 1) := by decide +kernel
theorem dX6_isOnceOnly_0 : decode cX6_isOnceOnly 0 = .ok (.aload_n 0, 1) := by decide +kernel
theorem dX6_isOnceOnly_1 : decode cX6_isOnceOnly 1 = .ok (.getfield 46, 3) := by decide +kernel
theorem dX6_isOnceOnly_4 : decode cX6_isOnceOnly 4 = .ok (.iconst 5, 1) := by decide +kernel
theorem dX6_isOnceOnly_5 : decode cX6_isOnceOnly 5 = .ok (.if_icmp .eq 39, 3) := by decide +kernel
theorem dX6_isOnceOnly_8 : decode cX6_isOnceOnly 8 = .ok (.aload_n 0, 1) := by decide +kernel
theorem dX6_isOnceOnly_9 : decode cX6_isOnceOnly 9 = .ok (.getfield 46, 3) := by decide +kernel
theorem dX6_isOnceOnly_12 : decode cX6_isOnceOnly 12 = .ok (.bipush 6, 2) := by decide +kernel
theorem dX6_isOnceOnly_14 : decode cX6_isOnceOnly 14 = .ok (.if_icmp .eq 30, 3) := by decide +kernel
theorem dX6_isOnceOnly_17 : decode cX6_isOnceOnly 17 = .ok (.aload_n 0, 1) := by decide +kernel
theorem dX6_isOnceOnly_18 : decode cX6_isOnceOnly 18 = .ok (.getfield 46, 3) := by decide +kernel
theorem dX6_isOnceOnly_21 : decode cX6_isOnceOnly 21 = .ok (.bipush 8, 2) := by decide +kernel
theorem dX6_isOnceOnly_23 : decode cX6_isOnceOnly 23 = .ok (.if_icmp .eq 21, 3) := by decide +kernel
theorem dX6_isOnceOnly_26 : decode cX6_isOnceOnly 26 = .ok (.aload_n 0, 1) := by decide +kernel
theorem dX6_isOnceOnly_27 : decode cX6_isOnceOnly 27 = .ok (.getfield 46, 3) := by decide +kernel
theorem dX6_isOnceOnly_30 : decode cX6_isOnceOnly 30 = .ok (.bipush 9, 2) := by decide +kernel
theorem dX6_isOnceOnly_32 : decode cX6_isOnceOnly 32 = .ok (.if_icmp .eq 12, 3) := by decide +kernel
theorem dX6_isOnceOnly_35 : decode cX6_isOnceOnly 35 = .ok (.aload_n 0, 1) := by decide +kernel
theorem dX6_isOnceOnly_36 : decode cX6_isOnceOnly 36 = .ok (.getfield 46, 3) := by decide +kernel
theorem dX6_isOnceOnly_39 : decode cX6_isOnceOnly 39 = .ok (.bipush 15, 2) := by decide +kernel
theorem dX6_isOnceOnly_41 : decode cX6_isOnceOnly 41 = .ok (.if_icmp .ne 7, 3) := by decide +kernel
theorem dX6_isOnceOnly_44 : decode cX6_isOnceOnly 44 = .ok (.iconst 1, 1) := by decide +kernel
theorem dX6_isOnceOnly_45 : decode cX6_isOnceOnly 45 = .ok (.goto 4, 3) := by decide +kernel
theorem dX6_isOnceOnly_48 : decode cX6_isOnceOnly 48 = .ok (.iconst 0, 1) := by decide +kernel
theorem dX6_isOnceOnly_49 : decode cX6_isOnceOnly 49 = .ok (.ireturn, 1) := by decide +kernel
theorem dX6_isAtEnd_0 : decode cX6_isAtEnd 0 = .ok (.aload_n 0, 1) := by decide +kernel
theorem dX6_isAtEnd_1 : decode cX6_isAtEnd 1 = .ok (.getfield 29, 3) := by decide +kernel
theorem dX6_isAtEnd_4 : decode cX6_isAtEnd 4 = .ok (.ifCond .ne 12, 3) := by decide +kernel
theorem dX6_isAtEnd_7 : decode cX6_isAtEnd 7 = .ok (.aload_n 0, 1) := by decide +kernel
theorem dX6_isAtEnd_8 : decode cX6_isAtEnd 8 = .ok (.getfield 46, 3) := by decide +kernel
theorem dX6_isAtEnd_11 : decode cX6_isAtEnd 11 = .ok (.bipush 46, 2) := by decide +kernel
theorem dX6_isAtEnd_13 : decode cX6_isAtEnd 13 = .ok (.if_icmp .ne 5, 3) := by decide +kernel
theorem dX6_isAtEnd_16 : decode cX6_isAtEnd 16 = .ok (.iconst 1, 1) := by decide +kernel
theorem dX6_isAtEnd_17 : decode cX6_isAtEnd 17 = .ok (.ireturn, 1) := by decide +kernel
theorem dX6_isAtEnd_18 : decode cX6_isAtEnd 18 = .ok (.aload_n 0, 1) := by decide +kernel
theorem dX6_isAtEnd_19 : decode cX6_isAtEnd 19 = .ok (.bipush 33, 2) := by decide +kernel
theorem dX6_isAtEnd_21 : decode cX6_isAtEnd 21 = .ok (.invokevirtual 130, 3) := by decide +kernel
theorem dX6_isAtEnd_24 : decode cX6_isAtEnd 24 = .ok (.iconst 0, 1) := by decide +kernel
theorem dX6_isAtEnd_25 : decode cX6_isAtEnd 25 = .ok (.ireturn, 1) := by decide +kernel
theorem dX6_readThing_0 : decode cX6_readThing 0 = .ok (.aload_n 0, 1) := by decide +kernel
theorem dX6_readThing_1 : decode cX6_readThing 1 = .ok (.getfield 46, 3) := by decide +kernel
theorem dX6_readThing_4 : decode cX6_readThing 4 = .ok (.bipush 30, 2) := by decide +kernel
theorem dX6_readThing_6 : decode cX6_readThing 6 = .ok (.if_icmp .eq 9, 3) := by decide +kernel
theorem dX6_readThing_9 : decode cX6_readThing 9 = .ok (.aload_n 0, 1) := by decide +kernel
theorem dX6_readThing_10 : decode cX6_readThing 10 = .ok (.iconst 0, 1) := by decide +kernel
theorem dX6_readThing_11 : decode cX6_readThing 11 = .ok (.invokevirtual 123, 3) := by decide +kernel
theorem dX6_readThing_14 : decode cX6_readThing 14 = .ok (.return_, 1) := by decide +kernel
theorem dX6_readThing_15 : decode cX6_readThing 15 = .ok (.aload_n 0, 1) := by decide +kernel
theorem dX6_readThing_16 : decode cX6_readThing 16 = .ok (.getfield 56, 3) := by decide +kernel
theorem dX6_readThing_19 : decode cX6_readThing 19 = .ok (.istore_n 2, 1) := by decide +kernel
theorem dX6_readThing_20 : decode cX6_readThing 20 = .ok (.aload_n 1, 1) := by decide +kernel
theorem dX6_readThing_21 : decode cX6_readThing 21 = .ok (.iload_n 2, 1) := by decide +kernel
theorem dX6_readThing_22 : decode cX6_readThing 22 = .ok (.invokevirtual 133, 3) := by decide +kernel
theorem dX6_readThing_25 : decode cX6_readThing 25 = .ok (.ifCond .eq 9, 3) := by decide +kernel
theorem dX6_readThing_28 : decode cX6_readThing 28 = .ok (.aload_n 0, 1) := by decide +kernel
theorem dX6_readThing_29 : decode cX6_readThing 29 = .ok (.iconst 5, 1) := by decide +kernel
theorem dX6_readThing_30 : decode cX6_readThing 30 = .ok (.invokevirtual 123, 3) := by decide +kernel
theorem dX6_readThing_33 : decode cX6_readThing 33 = .ok (.return_, 1) := by decide +kernel
theorem dX6_readThing_34 : decode cX6_readThing 34 = .ok (.aload_n 0, 1) := by decide +kernel
theorem dX6_readThing_35 : decode cX6_readThing 35 = .ok (.invokevirtual 26, 3) := by decide +kernel
theorem dX6_readThing_38 : decode cX6_readThing 38 = .ok (.aload_n 1, 1) := by decide +kernel
theorem dX6_readThing_39 : decode cX6_readThing 39 = .ok (.dup, 1) := by decide +kernel
theorem dX6_readThing_40 : decode cX6_readThing 40 = .ok (.getfield 137, 3) := by decide +kernel
theorem dX6_readThing_43 : decode cX6_readThing 43 = .ok (.iconst 1, 1) := by decide +kernel
theorem dX6_readThing_44 : decode cX6_readThing 44 = .ok (.iload_n 2, 1) := by decide +kernel
theorem dX6_readThing_45 : decode cX6_readThing 45 = .ok (.ishl, 1) := by decide +kernel
theorem dX6_readThing_46 : decode cX6_readThing 46 = .ok (.ior, 1) := by decide +kernel
theorem dX6_readThing_47 : decode cX6_readThing 47 = .ok (.putfield 137, 3) := by decide +kernel
theorem dX6_readThing_50 : decode cX6_readThing 50 = .ok (.aload_n 0, 1) := by decide +kernel
theorem dX6_readThing_51 : decode cX6_readThing 51 = .ok (.iconst 1, 1) := by decide +kernel
theorem dX6_readThing_52 : decode cX6_readThing 52 = .ok (.sipush 9999, 3) := by decide +kernel
theorem dX6_readThing_55 : decode cX6_readThing 55 = .ok (.invokevirtual 89, 3) := by decide +kernel
theorem dX6_readThing_58 : decode cX6_readThing 58 = .ok (.istore_n 3, 1) := by decide +kernel
theorem dX6_readThing_59 : decode cX6_readThing 59 = .ok (.aload_n 1, 1) := by decide +kernel
theorem dX6_readThing_60 : decode cX6_readThing 60 = .ok (.iload_n 2, 1) := by decide +kernel
theorem dX6_readThing_61 : decode cX6_readThing 61 = .ok (.iload_n 3, 1) := by decide +kernel
theorem dX6_readThing_62 : decode cX6_readThing 62 = .ok (.aload_n 0, 1) := by decide +kernel
theorem dX6_readThing_63 : decode cX6_readThing 63 = .ok (.iconst 0, 1) := by decide +kernel
theorem dX6_readThing_64 : decode cX6_readThing 64 = .ok (.sipush 999, 3) := by decide +kernel
theorem dX6_readThing_67 : decode cX6_readThing 67 = .ok (.invokevirtual 89, 3) := by decide +kernel
theorem dX6_readThing_70 : decode cX6_readThing 70 = .ok (.invokevirtual 140, 3) := by decide +kernel
theorem dX6_readThing_73 : decode cX6_readThing 73 = .ok (.iconst 0, 1) := by decide +kernel
theorem dX6_readThing_74 : decode cX6_readThing 74 = .ok (.istore 4, 2) := by decide +kernel
theorem dX6_readThing_76 : decode cX6_readThing 76 = .ok (.iconst 0, 1) := by decide +kernel
theorem dX6_readThing_77 : decode cX6_readThing 77 = .ok (.istore 5, 2) := by decide +kernel
theorem dX6_readThing_79 : decode cX6_readThing 79 = .ok (.iload 5, 2) := by decide +kernel
theorem dX6_readThing_81 : decode cX6_readThing 81 = .ok (.sipush 400, 3) := by decide +kernel
theorem dX6_readThing_84 : decode cX6_readThing 84 = .ok (.if_icmp .ge 74, 3) := by decide +kernel
theorem dX6_readThing_87 : decode cX6_readThing 87 = .ok (.aload_n 0, 1) := by decide +kernel
theorem dX6_readThing_88 : decode cX6_readThing 88 = .ok (.getfield 29, 3) := by decide +kernel
theorem dX6_readThing_91 : decode cX6_readThing 91 = .ok (.ifCond .ne 67, 3) := by decide +kernel
theorem dX6_readThing_94 : decode cX6_readThing 94 = .ok (.aload_n 0, 1) := by decide +kernel
theorem dX6_readThing_95 : decode cX6_readThing 95 = .ok (.getfield 46, 3) := by decide +kernel
theorem dX6_readThing_98 : decode cX6_readThing 98 = .ok (.istore 6, 2) := by decide +kernel
theorem dX6_readThing_100 : decode cX6_readThing 100 = .ok (.iload 6, 2) := by decide +kernel
theorem dX6_readThing_102 : decode cX6_readThing 102 = .ok (.bipush 10, 2) := by decide +kernel
theorem dX6_readThing_104 : decode cX6_readThing 104 = .ok (.if_icmp .lt 10, 3) := by decide +kernel
theorem dX6_readThing_107 : decode cX6_readThing 107 = .ok (.iload 6, 2) := by decide +kernel
theorem dX6_readThing_109 : decode cX6_readThing 109 = .ok (.bipush 13, 2) := by decide +kernel
theorem dX6_readThing_111 : decode cX6_readThing 111 = .ok (.if_icmp .le 4, 3) := by decide +kernel
theorem dX6_readThing_114 : decode cX6_readThing 114 = .ok (.return_, 1) := by decide +kernel
theorem dX6_readThing_115 : decode cX6_readThing 115 = .ok (.iload 4, 2) := by decide +kernel
theorem dX6_readThing_117 : decode cX6_readThing 117 = .ok (.iload 6, 2) := by decide +kernel
theorem dX6_readThing_119 : decode cX6_readThing 119 = .ok (.ishr, 1) := by decide +kernel
theorem dX6_readThing_120 : decode cX6_readThing 120 = .ok (.iconst 1, 1) := by decide +kernel
theorem dX6_readThing_121 : decode cX6_readThing 121 = .ok (.iand, 1) := by decide +kernel
theorem dX6_readThing_122 : decode cX6_readThing 122 = .ok (.ifCond .eq 9, 3) := by decide +kernel
theorem dX6_readThing_125 : decode cX6_readThing 125 = .ok (.aload_n 0, 1) := by decide +kernel
theorem dX6_readThing_126 : decode cX6_readThing 126 = .ok (.iconst 4, 1) := by decide +kernel
theorem dX6_readThing_127 : decode cX6_readThing 127 = .ok (.invokevirtual 123, 3) := by decide +kernel
theorem dX6_readThing_130 : decode cX6_readThing 130 = .ok (.return_, 1) := by decide +kernel
theorem dX6_readThing_131 : decode cX6_readThing 131 = .ok (.iload 4, 2) := by decide +kernel
theorem dX6_readThing_133 : decode cX6_readThing 133 = .ok (.iconst 1, 1) := by decide +kernel
theorem dX6_readThing_134 : decode cX6_readThing 134 = .ok (.iload 6, 2) := by decide +kernel
theorem dX6_readThing_136 : decode cX6_readThing 136 = .ok (.ishl, 1) := by decide +kernel
theorem dX6_readThing_137 : decode cX6_readThing 137 = .ok (.ior, 1) := by decide +kernel
theorem dX6_readThing_138 : decode cX6_readThing 138 = .ok (.istore 4, 2) := by decide +kernel
theorem dX6_readThing_140 : decode cX6_readThing 140 = .ok (.aload_n 0, 1) := by decide +kernel
theorem dX6_readThing_141 : decode cX6_readThing 141 = .ok (.invokevirtual 26, 3) := by decide +kernel
theorem dX6_readThing_144 : decode cX6_readThing 144 = .ok (.aload_n 0, 1) := by decide +kernel
theorem dX6_readThing_145 : decode cX6_readThing 145 = .ok (.aload_n 1, 1) := by decide +kernel
theorem dX6_readThing_146 : decode cX6_readThing 146 = .ok (.iload_n 2, 1) := by decide +kernel
theorem dX6_readThing_147 : decode cX6_readThing 147 = .ok (.iload 6, 2) := by decide +kernel
theorem dX6_readThing_149 : decode cX6_readThing 149 = .ok (.invokevirtual 144, 3) := by decide +kernel
theorem dX6_readThing_152 : decode cX6_readThing 152 = .ok (.iinc 5 1, 3) := by decide +kernel
theorem dX6_readThing_155 : decode cX6_readThing 155 = .ok (.goto (-76), 3) := by decide +kernel
theorem dX6_readThing_158 : decode cX6_readThing 158 = .ok (.return_, 1) := by decide +kernel
theorem dX6_readExtra_0 : decode cX6_readExtra 0 = .ok (.iload_n 2, 1) := by decide +kernel
theorem dX6_readExtra_1 : decode cX6_readExtra 1 = .ok (.ifCond .lt 9, 3) := by decide +kernel
theorem dX6_readExtra_4 : decode cX6_readExtra 4 = .ok (.iload_n 2, 1) := by decide +kernel
theorem dX6_readExtra_5 : decode cX6_readExtra 5 = .ok (.bipush 8, 2) := by decide +kernel
theorem dX6_readExtra_7 : decode cX6_readExtra 7 = .ok (.if_icmp .lt 4, 3) := by decide +kernel
theorem dX6_readExtra_10 : decode cX6_readExtra 10 = .ok (.return_, 1) := by decide +kernel
theorem dX6_readExtra_11 : decode cX6_readExtra 11 = .ok (.iload_n 3, 1) := by decide +kernel
theorem dX6_readExtra_12 : decode cX6_readExtra 12 = .ok (.bipush 10, 2) := by decide +kernel
theorem dX6_readExtra_14 : decode cX6_readExtra 14 = .ok (.if_icmp .ne 19, 3) := by decide +kernel
theorem dX6_readExtra_17 : decode cX6_readExtra 17 = .ok (.aload_n 1, 1) := by decide +kernel
theorem dX6_readExtra_18 : decode cX6_readExtra 18 = .ok (.getfield 148, 3) := by decide +kernel
theorem dX6_readExtra_21 : decode cX6_readExtra 21 = .ok (.iload_n 2, 1) := by decide +kernel
theorem dX6_readExtra_22 : decode cX6_readExtra 22 = .ok (.aload_n 0, 1) := by decide +kernel
theorem dX6_readExtra_23 : decode cX6_readExtra 23 = .ok (.iconst 1, 1) := by decide +kernel
theorem dX6_readExtra_24 : decode cX6_readExtra 24 = .ok (.bipush 60, 2) := by decide +kernel
theorem dX6_readExtra_26 : decode cX6_readExtra 26 = .ok (.invokevirtual 89, 3) := by decide +kernel
theorem dX6_readExtra_29 : decode cX6_readExtra 29 = .ok (.iastore, 1) := by decide +kernel
theorem dX6_readExtra_30 : decode cX6_readExtra 30 = .ok (.goto 63, 3) := by decide +kernel
theorem dX6_readExtra_33 : decode cX6_readExtra 33 = .ok (.iload_n 3, 1) := by decide +kernel
theorem dX6_readExtra_34 : decode cX6_readExtra 34 = .ok (.bipush 11, 2) := by decide +kernel
theorem dX6_readExtra_36 : decode cX6_readExtra 36 = .ok (.if_icmp .ne 20, 3) := by decide +kernel
theorem dX6_readExtra_39 : decode cX6_readExtra 39 = .ok (.aload_n 1, 1) := by decide +kernel
theorem dX6_readExtra_40 : decode cX6_readExtra 40 = .ok (.getfield 151, 3) := by decide +kernel
theorem dX6_readExtra_43 : decode cX6_readExtra 43 = .ok (.iload_n 2, 1) := by decide +kernel
theorem dX6_readExtra_44 : decode cX6_readExtra 44 = .ok (.aload_n 0, 1) := by decide +kernel
theorem dX6_readExtra_45 : decode cX6_readExtra 45 = .ok (.iconst 0, 1) := by decide +kernel
theorem dX6_readExtra_46 : decode cX6_readExtra 46 = .ok (.sipush 9999, 3) := by decide +kernel
theorem dX6_readExtra_49 : decode cX6_readExtra 49 = .ok (.invokevirtual 89, 3) := by decide +kernel
theorem dX6_readExtra_52 : decode cX6_readExtra 52 = .ok (.iastore, 1) := by decide +kernel
theorem dX6_readExtra_53 : decode cX6_readExtra 53 = .ok (.goto 40, 3) := by decide +kernel
theorem dX6_readExtra_56 : decode cX6_readExtra 56 = .ok (.iload_n 3, 1) := by decide +kernel
theorem dX6_readExtra_57 : decode cX6_readExtra 57 = .ok (.bipush 12, 2) := by decide +kernel
theorem dX6_readExtra_59 : decode cX6_readExtra 59 = .ok (.if_icmp .ne 20, 3) := by decide +kernel
theorem dX6_readExtra_62 : decode cX6_readExtra 62 = .ok (.aload_n 1, 1) := by decide +kernel
theorem dX6_readExtra_63 : decode cX6_readExtra 63 = .ok (.getfield 154, 3) := by decide +kernel
theorem dX6_readExtra_66 : decode cX6_readExtra 66 = .ok (.iload_n 2, 1) := by decide +kernel
theorem dX6_readExtra_67 : decode cX6_readExtra 67 = .ok (.aload_n 0, 1) := by decide +kernel
theorem dX6_readExtra_68 : decode cX6_readExtra 68 = .ok (.iconst 0, 1) := by decide +kernel
theorem dX6_readExtra_69 : decode cX6_readExtra 69 = .ok (.sipush 9999, 3) := by decide +kernel
theorem dX6_readExtra_72 : decode cX6_readExtra 72 = .ok (.invokevirtual 89, 3) := by decide +kernel
theorem dX6_readExtra_75 : decode cX6_readExtra 75 = .ok (.iastore, 1) := by decide +kernel
theorem dX6_readExtra_76 : decode cX6_readExtra 76 = .ok (.goto 17, 3) := by decide +kernel
theorem dX6_readExtra_79 : decode cX6_readExtra 79 = .ok (.aload_n 1, 1) := by decide +kernel
theorem dX6_readExtra_80 : decode cX6_readExtra 80 = .ok (.getfield 157, 3) := by decide +kernel
theorem dX6_readExtra_83 : decode cX6_readExtra 83 = .ok (.iload_n 2, 1) := by decide +kernel
theorem dX6_readExtra_84 : decode cX6_readExtra 84 = .ok (.aload_n 0, 1) := by decide +kernel
theorem dX6_readExtra_85 : decode cX6_readExtra 85 = .ok (.iconst 0, 1) := by decide +kernel
theorem dX6_readExtra_86 : decode cX6_readExtra 86 = .ok (.sipush 9999, 3) := by decide +kernel
theorem dX6_readExtra_89 : decode cX6_readExtra 89 = .ok (.invokevirtual 89, 3) := by decide +kernel
theorem dX6_readExtra_92 : decode cX6_readExtra 92 = .ok (.iastore, 1) := by decide +kernel
theorem dX6_readExtra_93 : decode cX6_readExtra 93 = .ok (.return_, 1) := by decide +kernel
theorem dX6_readSet_0 : decode cX6_readSet 0 = .ok (.iconst 0, 1) := by decide +kernel
theorem dX6_readSet_1 : decode cX6_readSet 1 = .ok (.istore_n 2, 1) := by decide +kernel
theorem dX6_readSet_2 : decode cX6_readSet 2 = .ok (.iconst 0, 1) := by decide +kernel
theorem dX6_readSet_3 : decode cX6_readSet 3 = .ok (.istore_n 3, 1) := by decide +kernel
theorem dX6_readSet_4 : decode cX6_readSet 4 = .ok (.iload_n 3, 1) := by decide +kernel
theorem dX6_readSet_5 : decode cX6_readSet 5 = .ok (.sipush 400, 3) := by decide +kernel
theorem dX6_readSet_8 : decode cX6_readSet 8 = .ok (.if_icmp .ge 66, 3) := by decide +kernel
theorem dX6_readSet_11 : decode cX6_readSet 11 = .ok (.aload_n 0, 1) := by decide +kernel
theorem dX6_readSet_12 : decode cX6_readSet 12 = .ok (.getfield 29, 3) := by decide +kernel
theorem dX6_readSet_15 : decode cX6_readSet 15 = .ok (.ifCond .ne 59, 3) := by decide +kernel
theorem dX6_readSet_18 : decode cX6_readSet 18 = .ok (.aload_n 0, 1) := by decide +kernel
theorem dX6_readSet_19 : decode cX6_readSet 19 = .ok (.getfield 46, 3) := by decide +kernel
theorem dX6_readSet_22 : decode cX6_readSet 22 = .ok (.bipush 30, 2) := by decide +kernel
theorem dX6_readSet_24 : decode cX6_readSet 24 = .ok (.if_icmp .ne 50, 3) := by decide +kernel
theorem dX6_readSet_27 : decode cX6_readSet 27 = .ok (.aload_n 0, 1) := by decide +kernel
theorem dX6_readSet_28 : decode cX6_readSet 28 = .ok (.getfield 56, 3) := by decide +kernel
theorem dX6_readSet_31 : decode cX6_readSet 31 = .ok (.istore 4, 2) := by decide +kernel
theorem dX6_readSet_33 : decode cX6_readSet 33 = .ok (.aload_n 1, 1) := by decide +kernel
theorem dX6_readSet_34 : decode cX6_readSet 34 = .ok (.iload 4, 2) := by decide +kernel
theorem dX6_readSet_36 : decode cX6_readSet 36 = .ok (.invokevirtual 133, 3) := by decide +kernel
theorem dX6_readSet_39 : decode cX6_readSet 39 = .ok (.ifCond .eq 12, 3) := by decide +kernel
theorem dX6_readSet_42 : decode cX6_readSet 42 = .ok (.iload_n 2, 1) := by decide +kernel
theorem dX6_readSet_43 : decode cX6_readSet 43 = .ok (.iload 4, 2) := by decide +kernel
theorem dX6_readSet_45 : decode cX6_readSet 45 = .ok (.ishr, 1) := by decide +kernel
theorem dX6_readSet_46 : decode cX6_readSet 46 = .ok (.iconst 1, 1) := by decide +kernel
theorem dX6_readSet_47 : decode cX6_readSet 47 = .ok (.iand, 1) := by decide +kernel
theorem dX6_readSet_48 : decode cX6_readSet 48 = .ok (.ifCond .eq 9, 3) := by decide +kernel
theorem dX6_readSet_51 : decode cX6_readSet 51 = .ok (.aload_n 0, 1) := by decide +kernel
theorem dX6_readSet_52 : decode cX6_readSet 52 = .ok (.iconst 5, 1) := by decide +kernel
theorem dX6_readSet_53 : decode cX6_readSet 53 = .ok (.invokevirtual 123, 3) := by decide +kernel
theorem dX6_readSet_56 : decode cX6_readSet 56 = .ok (.return_, 1) := by decide +kernel
theorem dX6_readSet_57 : decode cX6_readSet 57 = .ok (.iload_n 2, 1) := by decide +kernel
theorem dX6_readSet_58 : decode cX6_readSet 58 = .ok (.iconst 1, 1) := by decide +kernel
theorem dX6_readSet_59 : decode cX6_readSet 59 = .ok (.iload 4, 2) := by decide +kernel
theorem dX6_readSet_61 : decode cX6_readSet 61 = .ok (.ishl, 1) := by decide +kernel
theorem dX6_readSet_62 : decode cX6_readSet 62 = .ok (.ior, 1) := by decide +kernel
theorem dX6_readSet_63 : decode cX6_readSet 63 = .ok (.istore_n 2, 1) := by decide +kernel
theorem dX6_readSet_64 : decode cX6_readSet 64 = .ok (.aload_n 0, 1) := by decide +kernel
theorem dX6_readSet_65 : decode cX6_readSet 65 = .ok (.invokevirtual 26, 3) := by decide +kernel
theorem dX6_readSet_68 : decode cX6_readSet 68 = .ok (.iinc 3 1, 3) := by decide +kernel
theorem dX6_readSet_71 : decode cX6_readSet 71 = .ok (.goto (-67), 3) := by decide +kernel
theorem dX6_readSet_74 : decode cX6_readSet 74 = .ok (.iload_n 2, 1) := by decide +kernel
theorem dX6_readSet_75 : decode cX6_readSet 75 = .ok (.ifCond .ne 9, 3) := by decide +kernel
theorem dX6_readSet_78 : decode cX6_readSet 78 = .ok (.aload_n 0, 1) := by decide +kernel
theorem dX6_readSet_79 : decode cX6_readSet 79 = .ok (.iconst 0, 1) := by decide +kernel
theorem dX6_readSet_80 : decode cX6_readSet 80 = .ok (.invokevirtual 123, 3) := by decide +kernel
theorem dX6_readSet_83 : decode cX6_readSet 83 = .ok (.return_, 1) := by decide +kernel
theorem dX6_readSet_84 : decode cX6_readSet 84 = .ok (.aload_n 0, 1) := by decide +kernel
theorem dX6_readSet_85 : decode cX6_readSet 85 = .ok (.iconst 2, 1) := by decide +kernel
theorem dX6_readSet_86 : decode cX6_readSet 86 = .ok (.invokevirtual 130, 3) := by decide +kernel
theorem dX6_readSet_89 : decode cX6_readSet 89 = .ok (.aload_n 0, 1) := by decide +kernel
theorem dX6_readSet_90 : decode cX6_readSet 90 = .ok (.iconst 0, 1) := by decide +kernel
theorem dX6_readSet_91 : decode cX6_readSet 91 = .ok (.sipush 9999, 3) := by decide +kernel
theorem dX6_readSet_94 : decode cX6_readSet 94 = .ok (.invokevirtual 89, 3) := by decide +kernel
theorem dX6_readSet_97 : decode cX6_readSet 97 = .ok (.istore_n 3, 1) := by decide +kernel
theorem dX6_readSet_98 : decode cX6_readSet 98 = .ok (.aload_n 1, 1) := by decide +kernel
theorem dX6_readSet_99 : decode cX6_readSet 99 = .ok (.getfield 160, 3) := by decide +kernel
theorem dX6_readSet_102 : decode cX6_readSet 102 = .ok (.iload_n 2, 1) := by decide +kernel
theorem dX6_readSet_103 : decode cX6_readSet 103 = .ok (.iload_n 3, 1) := by decide +kernel
theorem dX6_readSet_104 : decode cX6_readSet 104 = .ok (.aload_n 0, 1) := by decide +kernel
theorem dX6_readSet_105 : decode cX6_readSet 105 = .ok (.invokevirtual 164, 3) := by decide +kernel
theorem dX6_readSet_108 : decode cX6_readSet 108 = .ok (.invokevirtual 168, 3) := by decide +kernel
theorem dX6_readSet_111 : decode cX6_readSet 111 = .ok (.return_, 1) := by decide +kernel
theorem dX6_readNeed_0 : decode cX6_readNeed 0 = .ok (.aload_n 0, 1) := by decide +kernel
theorem dX6_readNeed_1 : decode cX6_readNeed 1 = .ok (.iconst 0, 1) := by decide +kernel
theorem dX6_readNeed_2 : decode cX6_readNeed 2 = .ok (.sipush 9999, 3) := by decide +kernel
theorem dX6_readNeed_5 : decode cX6_readNeed 5 = .ok (.invokevirtual 89, 3) := by decide +kernel
theorem dX6_readNeed_8 : decode cX6_readNeed 8 = .ok (.istore_n 2, 1) := by decide +kernel
theorem dX6_readNeed_9 : decode cX6_readNeed 9 = .ok (.aload_n 1, 1) := by decide +kernel
theorem dX6_readNeed_10 : decode cX6_readNeed 10 = .ok (.getfield 173, 3) := by decide +kernel
theorem dX6_readNeed_13 : decode cX6_readNeed 13 = .ok (.iconst 0, 1) := by decide +kernel
theorem dX6_readNeed_14 : decode cX6_readNeed 14 = .ok (.iload_n 2, 1) := by decide +kernel
theorem dX6_readNeed_15 : decode cX6_readNeed 15 = .ok (.aload_n 0, 1) := by decide +kernel
theorem dX6_readNeed_16 : decode cX6_readNeed 16 = .ok (.invokevirtual 164, 3) := by decide +kernel
theorem dX6_readNeed_19 : decode cX6_readNeed 19 = .ok (.invokevirtual 168, 3) := by decide +kernel
theorem dX6_readNeed_22 : decode cX6_readNeed 22 = .ok (.return_, 1) := by decide +kernel
theorem dX6_readCousin_0 : decode cX6_readCousin 0 = .ok (.aload_n 1, 1) := by decide +kernel
theorem dX6_readCousin_1 : decode cX6_readCousin 1 = .ok (.aload_n 0, 1) := by decide +kernel
theorem dX6_readCousin_2 : decode cX6_readCousin 2 = .ok (.iconst 0, 1) := by decide +kernel
theorem dX6_readCousin_3 : decode cX6_readCousin 3 = .ok (.sipush 9999, 3) := by decide +kernel
theorem dX6_readCousin_6 : decode cX6_readCousin 6 = .ok (.invokevirtual 89, 3) := by decide +kernel
theorem dX6_readCousin_9 : decode cX6_readCousin 9 = .ok (.putfield 176, 3) := by decide +kernel
theorem dX6_readCousin_12 : decode cX6_readCousin 12 = .ok (.aload_n 0, 1) := by decide +kernel
theorem dX6_readCousin_13 : decode cX6_readCousin 13 = .ok (.bipush 7, 2) := by decide +kernel
theorem dX6_readCousin_15 : decode cX6_readCousin 15 = .ok (.invokevirtual 130, 3) := by decide +kernel
theorem dX6_readCousin_18 : decode cX6_readCousin 18 = .ok (.aload_n 1, 1) := by decide +kernel
theorem dX6_readCousin_19 : decode cX6_readCousin 19 = .ok (.aload_n 0, 1) := by decide +kernel
theorem dX6_readCousin_20 : decode cX6_readCousin 20 = .ok (.iconst 1, 1) := by decide +kernel
theorem dX6_readCousin_21 : decode cX6_readCousin 21 = .ok (.bipush 60, 2) := by decide +kernel
theorem dX6_readCousin_23 : decode cX6_readCousin 23 = .ok (.invokevirtual 89, 3) := by decide +kernel
theorem dX6_readCousin_26 : decode cX6_readCousin 26 = .ok (.putfield 179, 3) := by decide +kernel
theorem dX6_readCousin_29 : decode cX6_readCousin 29 = .ok (.return_, 1) := by decide +kernel
theorem dX6_readLike_0 : decode cX6_readLike 0 = .ok (.aload_n 0, 1) := by decide +kernel
theorem dX6_readLike_1 : decode cX6_readLike 1 = .ok (.getfield 38, 3) := by decide +kernel
theorem dX6_readLike_4 : decode cX6_readLike 4 = .ok (.getfield 182, 3) := by decide +kernel
theorem dX6_readLike_7 : decode cX6_readLike 7 = .ok (.istore_n 2, 1) := by decide +kernel
theorem dX6_readLike_8 : decode cX6_readLike 8 = .ok (.aload_n 0, 1) := by decide +kernel
theorem dX6_readLike_9 : decode cX6_readLike 9 = .ok (.invokevirtual 187, 3) := by decide +kernel
theorem dX6_readLike_12 : decode cX6_readLike 12 = .ok (.aload_n 0, 1) := by decide +kernel
theorem dX6_readLike_13 : decode cX6_readLike 13 = .ok (.getfield 38, 3) := by decide +kernel
theorem dX6_readLike_16 : decode cX6_readLike 16 = .ok (.bipush 48, 2) := by decide +kernel
theorem dX6_readLike_18 : decode cX6_readLike 18 = .ok (.iconst 0, 1) := by decide +kernel
theorem dX6_readLike_19 : decode cX6_readLike 19 = .ok (.invokevirtual 190, 3) := by decide +kernel
theorem dX6_readLike_22 : decode cX6_readLike 22 = .ok (.aload_n 1, 1) := by decide +kernel
theorem dX6_readLike_23 : decode cX6_readLike 23 = .ok (.iload_n 2, 1) := by decide +kernel
theorem dX6_readLike_24 : decode cX6_readLike 24 = .ok (.aload_n 0, 1) := by decide +kernel
theorem dX6_readLike_25 : decode cX6_readLike 25 = .ok (.invokevirtual 164, 3) := by decide +kernel
theorem dX6_readLike_28 : decode cX6_readLike 28 = .ok (.invokevirtual 193, 3) := by decide +kernel
theorem dX6_readLike_31 : decode cX6_readLike 31 = .ok (.return_, 1) := by decide +kernel
theorem dX6_readIf_0 : decode cX6_readIf 0 = .ok (.aload_n 0, 1) := by decide +kernel
theorem dX6_readIf_1 : decode cX6_readIf 1 = .ok (.getfield 29, 3) := by decide +kernel
theorem dX6_readIf_4 : decode cX6_readIf 4 = .ok (.ifCond .ne 11, 3) := by decide +kernel
theorem dX6_readIf_7 : decode cX6_readIf 7 = .ok (.aload_n 0, 1) := by decide +kernel
theorem dX6_readIf_8 : decode cX6_readIf 8 = .ok (.getfield 46, 3) := by decide +kernel
theorem dX6_readIf_11 : decode cX6_readIf 11 = .ok (.iconst 3, 1) := by decide +kernel
theorem dX6_readIf_12 : decode cX6_readIf 12 = .ok (.if_icmp .eq 5, 3) := by decide +kernel
theorem dX6_readIf_15 : decode cX6_readIf 15 = .ok (.iconst (-1), 1) := by decide +kernel
theorem dX6_readIf_16 : decode cX6_readIf 16 = .ok (.ireturn, 1) := by decide +kernel
theorem dX6_readIf_17 : decode cX6_readIf 17 = .ok (.aload_n 0, 1) := by decide +kernel
theorem dX6_readIf_18 : decode cX6_readIf 18 = .ok (.invokevirtual 26, 3) := by decide +kernel
theorem dX6_readIf_21 : decode cX6_readIf 21 = .ok (.aload_n 0, 1) := by decide +kernel
theorem dX6_readIf_22 : decode cX6_readIf 22 = .ok (.getfield 38, 3) := by decide +kernel
theorem dX6_readIf_25 : decode cX6_readIf 25 = .ok (.getfield 182, 3) := by decide +kernel
theorem dX6_readIf_28 : decode cX6_readIf 28 = .ok (.istore_n 1, 1) := by decide +kernel
theorem dX6_readIf_29 : decode cX6_readIf 29 = .ok (.aload_n 0, 1) := by decide +kernel
theorem dX6_readIf_30 : decode cX6_readIf 30 = .ok (.iconst 0, 1) := by decide +kernel
theorem dX6_readIf_31 : decode cX6_readIf 31 = .ok (.invokevirtual 194, 3) := by decide +kernel
theorem dX6_readIf_34 : decode cX6_readIf 34 = .ok (.aload_n 0, 1) := by decide +kernel
theorem dX6_readIf_35 : decode cX6_readIf 35 = .ok (.getfield 38, 3) := by decide +kernel
theorem dX6_readIf_38 : decode cX6_readIf 38 = .ok (.bipush 48, 2) := by decide +kernel
theorem dX6_readIf_40 : decode cX6_readIf 40 = .ok (.iconst 0, 1) := by decide +kernel
theorem dX6_readIf_41 : decode cX6_readIf 41 = .ok (.invokevirtual 190, 3) := by decide +kernel
theorem dX6_readIf_44 : decode cX6_readIf 44 = .ok (.iload_n 1, 1) := by decide +kernel
theorem dX6_readIf_45 : decode cX6_readIf 45 = .ok (.ireturn, 1) := by decide +kernel
theorem dX6_readTest_0 : decode cX6_readTest 0 = .ok (.iconst 0, 1) := by decide +kernel
theorem dX6_readTest_1 : decode cX6_readTest 1 = .ok (.istore_n 2, 1) := by decide +kernel
theorem dX6_readTest_2 : decode cX6_readTest 2 = .ok (.iload_n 2, 1) := by decide +kernel
theorem dX6_readTest_3 : decode cX6_readTest 3 = .ok (.sipush 400, 3) := by decide +kernel
theorem dX6_readTest_6 : decode cX6_readTest 6 = .ok (.if_icmp .ge 101, 3) := by decide +kernel
theorem dX6_readTest_9 : decode cX6_readTest 9 = .ok (.iconst 0, 1) := by decide +kernel
theorem dX6_readTest_10 : decode cX6_readTest 10 = .ok (.istore_n 3, 1) := by decide +kernel
theorem dX6_readTest_11 : decode cX6_readTest 11 = .ok (.iload_n 3, 1) := by decide +kernel
theorem dX6_readTest_12 : decode cX6_readTest 12 = .ok (.sipush 400, 3) := by decide +kernel
theorem dX6_readTest_15 : decode cX6_readTest 15 = .ok (.if_icmp .ge 51, 3) := by decide +kernel
theorem dX6_readTest_18 : decode cX6_readTest 18 = .ok (.aload_n 0, 1) := by decide +kernel
theorem dX6_readTest_19 : decode cX6_readTest 19 = .ok (.iload_n 1, 1) := by decide +kernel
theorem dX6_readTest_20 : decode cX6_readTest 20 = .ok (.invokevirtual 197, 3) := by decide +kernel
theorem dX6_readTest_23 : decode cX6_readTest 23 = .ok (.iload_n 3, 1) := by decide +kernel
theorem dX6_readTest_24 : decode cX6_readTest 24 = .ok (.ifCond .le 13, 3) := by decide +kernel
theorem dX6_readTest_27 : decode cX6_readTest 27 = .ok (.aload_n 0, 1) := by decide +kernel
theorem dX6_readTest_28 : decode cX6_readTest 28 = .ok (.getfield 38, 3) := by decide +kernel
theorem dX6_readTest_31 : decode cX6_readTest 31 = .ok (.bipush 17, 2) := by decide +kernel
theorem dX6_readTest_33 : decode cX6_readTest 33 = .ok (.iconst 0, 1) := by decide +kernel
theorem dX6_readTest_34 : decode cX6_readTest 34 = .ok (.invokevirtual 190, 3) := by decide +kernel
theorem dX6_readTest_37 : decode cX6_readTest 37 = .ok (.aload_n 0, 1) := by decide +kernel
theorem dX6_readTest_38 : decode cX6_readTest 38 = .ok (.getfield 29, 3) := by decide +kernel
theorem dX6_readTest_41 : decode cX6_readTest 41 = .ok (.ifCond .ne 25, 3) := by decide +kernel
theorem dX6_readTest_44 : decode cX6_readTest 44 = .ok (.aload_n 0, 1) := by decide +kernel
theorem dX6_readTest_45 : decode cX6_readTest 45 = .ok (.getfield 46, 3) := by decide +kernel
theorem dX6_readTest_48 : decode cX6_readTest 48 = .ok (.bipush 17, 2) := by decide +kernel
theorem dX6_readTest_50 : decode cX6_readTest 50 = .ok (.if_icmp .eq 6, 3) := by decide +kernel
theorem dX6_readTest_53 : decode cX6_readTest 53 = .ok (.goto 13, 3) := by decide +kernel
theorem dX6_readTest_56 : decode cX6_readTest 56 = .ok (.aload_n 0, 1) := by decide +kernel
theorem dX6_readTest_57 : decode cX6_readTest 57 = .ok (.invokevirtual 26, 3) := by decide +kernel
theorem dX6_readTest_60 : decode cX6_readTest 60 = .ok (.iinc 3 1, 3) := by decide +kernel
theorem dX6_readTest_63 : decode cX6_readTest 63 = .ok (.goto (-52), 3) := by decide +kernel
theorem dX6_readTest_66 : decode cX6_readTest 66 = .ok (.iload_n 2, 1) := by decide +kernel
theorem dX6_readTest_67 : decode cX6_readTest 67 = .ok (.ifCond .le 13, 3) := by decide +kernel
theorem dX6_readTest_70 : decode cX6_readTest 70 = .ok (.aload_n 0, 1) := by decide +kernel
theorem dX6_readTest_71 : decode cX6_readTest 71 = .ok (.getfield 38, 3) := by decide +kernel
theorem dX6_readTest_74 : decode cX6_readTest 74 = .ok (.bipush 16, 2) := by decide +kernel
theorem dX6_readTest_76 : decode cX6_readTest 76 = .ok (.iconst 0, 1) := by decide +kernel
theorem dX6_readTest_77 : decode cX6_readTest 77 = .ok (.invokevirtual 190, 3) := by decide +kernel
theorem dX6_readTest_80 : decode cX6_readTest 80 = .ok (.aload_n 0, 1) := by decide +kernel
theorem dX6_readTest_81 : decode cX6_readTest 81 = .ok (.getfield 29, 3) := by decide +kernel
theorem dX6_readTest_84 : decode cX6_readTest 84 = .ok (.ifCond .ne 12, 3) := by decide +kernel
theorem dX6_readTest_87 : decode cX6_readTest 87 = .ok (.aload_n 0, 1) := by decide +kernel
theorem dX6_readTest_88 : decode cX6_readTest 88 = .ok (.getfield 46, 3) := by decide +kernel
theorem dX6_readTest_91 : decode cX6_readTest 91 = .ok (.bipush 16, 2) := by decide +kernel
theorem dX6_readTest_93 : decode cX6_readTest 93 = .ok (.if_icmp .eq 4, 3) := by decide +kernel
theorem dX6_readTest_96 : decode cX6_readTest 96 = .ok (.return_, 1) := by decide +kernel
theorem dX6_readTest_97 : decode cX6_readTest 97 = .ok (.aload_n 0, 1) := by decide +kernel
theorem dX6_readTest_98 : decode cX6_readTest 98 = .ok (.invokevirtual 26, 3) := by decide +kernel
theorem dX6_readTest_101 : decode cX6_readTest 101 = .ok (.iinc 2 1, 3) := by decide +kernel
theorem dX6_readTest_104 : decode cX6_readTest 104 = .ok (.goto (-102), 3) := by decide +kernel
theorem dX6_readTest_107 : decode cX6_readTest 107 = .ok (.return_, 1) := by decide +kernel
theorem dX6_readFact_0 : decode cX6_readFact 0 = .ok (.aload_n 0, 1) := by decide +kernel
theorem dX6_readFact_1 : decode cX6_readFact 1 = .ok (.getfield 46, 3) := by decide +kernel
theorem dX6_readFact_4 : decode cX6_readFact 4 = .ok (.bipush 18, 2) := by decide +kernel
theorem dX6_readFact_6 : decode cX6_readFact 6 = .ok (.if_icmp .ne 7, 3) := by decide +kernel
theorem dX6_readFact_9 : decode cX6_readFact 9 = .ok (.iconst 1, 1) := by decide +kernel
theorem dX6_readFact_10 : decode cX6_readFact 10 = .ok (.goto 4, 3) := by decide +kernel
theorem dX6_readFact_13 : decode cX6_readFact 13 = .ok (.iconst 0, 1) := by decide +kernel
theorem dX6_readFact_14 : decode cX6_readFact 14 = .ok (.istore_n 2, 1) := by decide +kernel
theorem dX6_readFact_15 : decode cX6_readFact 15 = .ok (.iload_n 2, 1) := by decide +kernel
theorem dX6_readFact_16 : decode cX6_readFact 16 = .ok (.ifCond .ne 35, 3) := by decide +kernel
theorem dX6_readFact_19 : decode cX6_readFact 19 = .ok (.aload_n 0, 1) := by decide +kernel
theorem dX6_readFact_20 : decode cX6_readFact 20 = .ok (.getfield 46, 3) := by decide +kernel
theorem dX6_readFact_23 : decode cX6_readFact 23 = .ok (.bipush 34, 2) := by decide +kernel
theorem dX6_readFact_25 : decode cX6_readFact 25 = .ok (.if_icmp .eq 26, 3) := by decide +kernel
theorem dX6_readFact_28 : decode cX6_readFact 28 = .ok (.aload_n 0, 1) := by decide +kernel
theorem dX6_readFact_29 : decode cX6_readFact 29 = .ok (.invokevirtual 187, 3) := by decide +kernel
theorem dX6_readFact_32 : decode cX6_readFact 32 = .ok (.aload_n 0, 1) := by decide +kernel
theorem dX6_readFact_33 : decode cX6_readFact 33 = .ok (.invokevirtual 200, 3) := by decide +kernel
theorem dX6_readFact_36 : decode cX6_readFact 36 = .ok (.istore_n 3, 1) := by decide +kernel
theorem dX6_readFact_37 : decode cX6_readFact 37 = .ok (.aload_n 0, 1) := by decide +kernel
theorem dX6_readFact_38 : decode cX6_readFact 38 = .ok (.invokevirtual 187, 3) := by decide +kernel
theorem dX6_readFact_41 : decode cX6_readFact 41 = .ok (.aload_n 0, 1) := by decide +kernel
theorem dX6_readFact_42 : decode cX6_readFact 42 = .ok (.getfield 38, 3) := by decide +kernel
theorem dX6_readFact_45 : decode cX6_readFact 45 = .ok (.iload_n 3, 1) := by decide +kernel
theorem dX6_readFact_46 : decode cX6_readFact 46 = .ok (.iconst 0, 1) := by decide +kernel
theorem dX6_readFact_47 : decode cX6_readFact 47 = .ok (.invokevirtual 190, 3) := by decide +kernel
theorem dX6_readFact_50 : decode cX6_readFact 50 = .ok (.return_, 1) := by decide +kernel
theorem dX6_readFact_51 : decode cX6_readFact 51 = .ok (.iload_n 1, 1) := by decide +kernel
theorem dX6_readFact_52 : decode cX6_readFact 52 = .ok (.bipush 10, 2) := by decide +kernel
theorem dX6_readFact_54 : decode cX6_readFact 54 = .ok (.if_icmp .lt 9, 3) := by decide +kernel
theorem dX6_readFact_57 : decode cX6_readFact 57 = .ok (.aload_n 0, 1) := by decide +kernel
theorem dX6_readFact_58 : decode cX6_readFact 58 = .ok (.iconst 2, 1) := by decide +kernel
theorem dX6_readFact_59 : decode cX6_readFact 59 = .ok (.invokevirtual 123, 3) := by decide +kernel
theorem dX6_readFact_62 : decode cX6_readFact 62 = .ok (.return_, 1) := by decide +kernel
theorem dX6_readFact_63 : decode cX6_readFact 63 = .ok (.aload_n 0, 1) := by decide +kernel
theorem dX6_readFact_64 : decode cX6_readFact 64 = .ok (.invokevirtual 26, 3) := by decide +kernel
theorem dX6_readFact_67 : decode cX6_readFact 67 = .ok (.iload_n 2, 1) := by decide +kernel
theorem dX6_readFact_68 : decode cX6_readFact 68 = .ok (.ifCond .eq 23, 3) := by decide +kernel
theorem dX6_readFact_71 : decode cX6_readFact 71 = .ok (.aload_n 0, 1) := by decide +kernel
theorem dX6_readFact_72 : decode cX6_readFact 72 = .ok (.iload_n 1, 1) := by decide +kernel
theorem dX6_readFact_73 : decode cX6_readFact 73 = .ok (.iconst 1, 1) := by decide +kernel
theorem dX6_readFact_74 : decode cX6_readFact 74 = .ok (.iadd, 1) := by decide +kernel
theorem dX6_readFact_75 : decode cX6_readFact 75 = .ok (.invokevirtual 197, 3) := by decide +kernel
theorem dX6_readFact_78 : decode cX6_readFact 78 = .ok (.aload_n 0, 1) := by decide +kernel
theorem dX6_readFact_79 : decode cX6_readFact 79 = .ok (.getfield 38, 3) := by decide +kernel
theorem dX6_readFact_82 : decode cX6_readFact 82 = .ok (.bipush 18, 2) := by decide +kernel
theorem dX6_readFact_84 : decode cX6_readFact 84 = .ok (.iconst 0, 1) := by decide +kernel
theorem dX6_readFact_85 : decode cX6_readFact 85 = .ok (.invokevirtual 190, 3) := by decide +kernel
theorem dX6_readFact_88 : decode cX6_readFact 88 = .ok (.goto 16, 3) := by decide +kernel
theorem dX6_readFact_91 : decode cX6_readFact 91 = .ok (.aload_n 0, 1) := by decide +kernel
theorem dX6_readFact_92 : decode cX6_readFact 92 = .ok (.iload_n 1, 1) := by decide +kernel
theorem dX6_readFact_93 : decode cX6_readFact 93 = .ok (.iconst 1, 1) := by decide +kernel
theorem dX6_readFact_94 : decode cX6_readFact 94 = .ok (.iadd, 1) := by decide +kernel
theorem dX6_readFact_95 : decode cX6_readFact 95 = .ok (.invokevirtual 194, 3) := by decide +kernel
theorem dX6_readFact_98 : decode cX6_readFact 98 = .ok (.aload_n 0, 1) := by decide +kernel
theorem dX6_readFact_99 : decode cX6_readFact 99 = .ok (.bipush 35, 2) := by decide +kernel
theorem dX6_readFact_101 : decode cX6_readFact 101 = .ok (.invokevirtual 130, 3) := by decide +kernel
theorem dX6_readFact_104 : decode cX6_readFact 104 = .ok (.return_, 1) := by decide +kernel
theorem dX6_readSign_0 : decode cX6_readSign 0 = .ok (.aload_n 0, 1) := by decide +kernel
theorem dX6_readSign_1 : decode cX6_readSign 1 = .ok (.getfield 46, 3) := by decide +kernel
theorem dX6_readSign_4 : decode cX6_readSign 4 = .ok (.istore_n 1, 1) := by decide +kernel
theorem dX6_readSign_5 : decode cX6_readSign 5 = .ok (.iload_n 1, 1) := by decide +kernel
theorem dX6_readSign_6 : decode cX6_readSign 6 = .ok (.bipush 40, 2) := by decide +kernel
theorem dX6_readSign_8 : decode cX6_readSign 8 = .ok (.if_icmp .lt 9, 3) := by decide +kernel
theorem dX6_readSign_11 : decode cX6_readSign 11 = .ok (.iload_n 1, 1) := by decide +kernel
theorem dX6_readSign_12 : decode cX6_readSign 12 = .ok (.bipush 44, 2) := by decide +kernel
theorem dX6_readSign_14 : decode cX6_readSign 14 = .ok (.if_icmp .le 11, 3) := by decide +kernel
theorem dX6_readSign_17 : decode cX6_readSign 17 = .ok (.aload_n 0, 1) := by decide +kernel
theorem dX6_readSign_18 : decode cX6_readSign 18 = .ok (.iconst 0, 1) := by decide +kernel
theorem dX6_readSign_19 : decode cX6_readSign 19 = .ok (.invokevirtual 123, 3) := by decide +kernel
theorem dX6_readSign_22 : decode cX6_readSign 22 = .ok (.goto 34, 3) := by decide +kernel
theorem dX6_readSign_25 : decode cX6_readSign 25 = .ok (.aload_n 0, 1) := by decide +kernel
theorem dX6_readSign_26 : decode cX6_readSign 26 = .ok (.getfield 32, 3) := by decide +kernel
theorem dX6_readSign_29 : decode cX6_readSign 29 = .ok (.bipush 60, 2) := by decide +kernel
theorem dX6_readSign_31 : decode cX6_readSign 31 = .ok (.if_icmp .lt 11, 3) := by decide +kernel
theorem dX6_readSign_34 : decode cX6_readSign 34 = .ok (.aload_n 0, 1) := by decide +kernel
theorem dX6_readSign_35 : decode cX6_readSign 35 = .ok (.iconst 3, 1) := by decide +kernel
theorem dX6_readSign_36 : decode cX6_readSign 36 = .ok (.invokevirtual 123, 3) := by decide +kernel
theorem dX6_readSign_39 : decode cX6_readSign 39 = .ok (.goto 17, 3) := by decide +kernel
theorem dX6_readSign_42 : decode cX6_readSign 42 = .ok (.aload_n 0, 1) := by decide +kernel
theorem dX6_readSign_43 : decode cX6_readSign 43 = .ok (.dup, 1) := by decide +kernel
theorem dX6_readSign_44 : decode cX6_readSign 44 = .ok (.getfield 32, 3) := by decide +kernel
theorem dX6_readSign_47 : decode cX6_readSign 47 = .ok (.iconst 1, 1) := by decide +kernel
theorem dX6_readSign_48 : decode cX6_readSign 48 = .ok (.iadd, 1) := by decide +kernel
theorem dX6_readSign_49 : decode cX6_readSign 49 = .ok (.putfield 32, 3) := by decide +kernel
theorem dX6_readSign_52 : decode cX6_readSign 52 = .ok (.aload_n 0, 1) := by decide +kernel
theorem dX6_readSign_53 : decode cX6_readSign 53 = .ok (.invokevirtual 26, 3) := by decide +kernel
theorem dX6_readSign_56 : decode cX6_readSign 56 = .ok (.iload_n 1, 1) := by decide +kernel
theorem dX6_readSign_57 : decode cX6_readSign 57 = .ok (.ireturn, 1) := by decide +kernel
theorem dX6_readSum_0 : decode cX6_readSum 0 = .ok (.bipush 48, 2) := by decide +kernel
theorem dX6_readSum_2 : decode cX6_readSum 2 = .ok (.istore_n 1, 1) := by decide +kernel
theorem dX6_readSum_3 : decode cX6_readSum 3 = .ok (.iconst 0, 1) := by decide +kernel
theorem dX6_readSum_4 : decode cX6_readSum 4 = .ok (.istore_n 2, 1) := by decide +kernel
theorem dX6_readSum_5 : decode cX6_readSum 5 = .ok (.iload_n 2, 1) := by decide +kernel
theorem dX6_readSum_6 : decode cX6_readSum 6 = .ok (.sipush 400, 3) := by decide +kernel
theorem dX6_readSum_9 : decode cX6_readSum 9 = .ok (.if_icmp .ge 120, 3) := by decide +kernel
theorem dX6_readSum_12 : decode cX6_readSum 12 = .ok (.aload_n 0, 1) := by decide +kernel
theorem dX6_readSum_13 : decode cX6_readSum 13 = .ok (.getfield 29, 3) := by decide +kernel
theorem dX6_readSum_16 : decode cX6_readSum 16 = .ok (.ifCond .ne 113, 3) := by decide +kernel
theorem dX6_readSum_19 : decode cX6_readSum 19 = .ok (.aload_n 0, 1) := by decide +kernel
theorem dX6_readSum_20 : decode cX6_readSum 20 = .ok (.invokevirtual 203, 3) := by decide +kernel
theorem dX6_readSum_23 : decode cX6_readSum 23 = .ok (.iconst 0, 1) := by decide +kernel
theorem dX6_readSum_24 : decode cX6_readSum 24 = .ok (.istore_n 3, 1) := by decide +kernel
theorem dX6_readSum_25 : decode cX6_readSum 25 = .ok (.iload_n 3, 1) := by decide +kernel
theorem dX6_readSum_26 : decode cX6_readSum 26 = .ok (.sipush 400, 3) := by decide +kernel
theorem dX6_readSum_29 : decode cX6_readSum 29 = .ok (.if_icmp .ge 51, 3) := by decide +kernel
theorem dX6_readSum_32 : decode cX6_readSum 32 = .ok (.aload_n 0, 1) := by decide +kernel
theorem dX6_readSum_33 : decode cX6_readSum 33 = .ok (.getfield 46, 3) := by decide +kernel
theorem dX6_readSum_36 : decode cX6_readSum 36 = .ok (.bipush 38, 2) := by decide +kernel
theorem dX6_readSum_38 : decode cX6_readSum 38 = .ok (.if_icmp .eq 12, 3) := by decide +kernel
theorem dX6_readSum_41 : decode cX6_readSum 41 = .ok (.aload_n 0, 1) := by decide +kernel
theorem dX6_readSum_42 : decode cX6_readSum 42 = .ok (.getfield 46, 3) := by decide +kernel
theorem dX6_readSum_45 : decode cX6_readSum 45 = .ok (.bipush 39, 2) := by decide +kernel
theorem dX6_readSum_47 : decode cX6_readSum 47 = .ok (.if_icmp .ne 33, 3) := by decide +kernel
theorem dX6_readSum_50 : decode cX6_readSum 50 = .ok (.aload_n 0, 1) := by decide +kernel
theorem dX6_readSum_51 : decode cX6_readSum 51 = .ok (.getfield 46, 3) := by decide +kernel
theorem dX6_readSum_54 : decode cX6_readSum 54 = .ok (.istore 4, 2) := by decide +kernel
theorem dX6_readSum_56 : decode cX6_readSum 56 = .ok (.aload_n 0, 1) := by decide +kernel
theorem dX6_readSum_57 : decode cX6_readSum 57 = .ok (.invokevirtual 26, 3) := by decide +kernel
theorem dX6_readSum_60 : decode cX6_readSum 60 = .ok (.aload_n 0, 1) := by decide +kernel
theorem dX6_readSum_61 : decode cX6_readSum 61 = .ok (.invokevirtual 203, 3) := by decide +kernel
theorem dX6_readSum_64 : decode cX6_readSum 64 = .ok (.aload_n 0, 1) := by decide +kernel
theorem dX6_readSum_65 : decode cX6_readSum 65 = .ok (.getfield 38, 3) := by decide +kernel
theorem dX6_readSum_68 : decode cX6_readSum 68 = .ok (.iload 4, 2) := by decide +kernel
theorem dX6_readSum_70 : decode cX6_readSum 70 = .ok (.iconst 0, 1) := by decide +kernel
theorem dX6_readSum_71 : decode cX6_readSum 71 = .ok (.invokevirtual 190, 3) := by decide +kernel
theorem dX6_readSum_74 : decode cX6_readSum 74 = .ok (.iinc 3 1, 3) := by decide +kernel
theorem dX6_readSum_77 : decode cX6_readSum 77 = .ok (.goto (-52), 3) := by decide +kernel
theorem dX6_readSum_80 : decode cX6_readSum 80 = .ok (.iload_n 1, 1) := by decide +kernel
theorem dX6_readSum_81 : decode cX6_readSum 81 = .ok (.bipush 48, 2) := by decide +kernel
theorem dX6_readSum_83 : decode cX6_readSum 83 = .ok (.if_icmp .eq 12, 3) := by decide +kernel
theorem dX6_readSum_86 : decode cX6_readSum 86 = .ok (.aload_n 0, 1) := by decide +kernel
theorem dX6_readSum_87 : decode cX6_readSum 87 = .ok (.getfield 38, 3) := by decide +kernel
theorem dX6_readSum_90 : decode cX6_readSum 90 = .ok (.iload_n 1, 1) := by decide +kernel
theorem dX6_readSum_91 : decode cX6_readSum 91 = .ok (.iconst 0, 1) := by decide +kernel
theorem dX6_readSum_92 : decode cX6_readSum 92 = .ok (.invokevirtual 190, 3) := by decide +kernel
theorem dX6_readSum_95 : decode cX6_readSum 95 = .ok (.aload_n 0, 1) := by decide +kernel
theorem dX6_readSum_96 : decode cX6_readSum 96 = .ok (.getfield 46, 3) := by decide +kernel
theorem dX6_readSum_99 : decode cX6_readSum 99 = .ok (.bipush 36, 2) := by decide +kernel
theorem dX6_readSum_101 : decode cX6_readSum 101 = .ok (.if_icmp .eq 13, 3) := by decide +kernel
theorem dX6_readSum_104 : decode cX6_readSum 104 = .ok (.aload_n 0, 1) := by decide +kernel
theorem dX6_readSum_105 : decode cX6_readSum 105 = .ok (.getfield 46, 3) := by decide +kernel
theorem dX6_readSum_108 : decode cX6_readSum 108 = .ok (.bipush 37, 2) := by decide +kernel
theorem dX6_readSum_110 : decode cX6_readSum 110 = .ok (.if_icmp .eq 4, 3) := by decide +kernel
theorem dX6_readSum_113 : decode cX6_readSum 113 = .ok (.return_, 1) := by decide +kernel
theorem dX6_readSum_114 : decode cX6_readSum 114 = .ok (.aload_n 0, 1) := by decide +kernel
theorem dX6_readSum_115 : decode cX6_readSum 115 = .ok (.getfield 46, 3) := by decide +kernel
theorem dX6_readSum_118 : decode cX6_readSum 118 = .ok (.istore_n 1, 1) := by decide +kernel
theorem dX6_readSum_119 : decode cX6_readSum 119 = .ok (.aload_n 0, 1) := by decide +kernel
theorem dX6_readSum_120 : decode cX6_readSum 120 = .ok (.invokevirtual 26, 3) := by decide +kernel
theorem dX6_readSum_123 : decode cX6_readSum 123 = .ok (.iinc 2 1, 3) := by decide +kernel
theorem dX6_readSum_126 : decode cX6_readSum 126 = .ok (.goto (-121), 3) := by decide +kernel
theorem dX6_readSum_129 : decode cX6_readSum 129 = .ok (.return_, 1) := by decide +kernel
theorem dX6_readValue_0 : decode cX6_readValue 0 = .ok (.aload_n 0, 1) := by decide +kernel
theorem dX6_readValue_1 : decode cX6_readValue 1 = .ok (.getfield 46, 3) := by decide +kernel
theorem dX6_readValue_4 : decode cX6_readValue 4 = .ok (.bipush 32, 2) := by decide +kernel
theorem dX6_readValue_6 : decode cX6_readValue 6 = .ok (.if_icmp .ne 11, 3) := by decide +kernel
theorem dX6_readValue_9 : decode cX6_readValue 9 = .ok (.aload_n 0, 1) := by decide +kernel
theorem dX6_readValue_10 : decode cX6_readValue 10 = .ok (.iconst 1, 1) := by decide +kernel
theorem dX6_readValue_11 : decode cX6_readValue 11 = .ok (.invokevirtual 123, 3) := by decide +kernel
theorem dX6_readValue_14 : decode cX6_readValue 14 = .ok (.goto 101, 3) := by decide +kernel
theorem dX6_readValue_17 : decode cX6_readValue 17 = .ok (.aload_n 0, 1) := by decide +kernel
theorem dX6_readValue_18 : decode cX6_readValue 18 = .ok (.getfield 46, 3) := by decide +kernel
theorem dX6_readValue_21 : decode cX6_readValue 21 = .ok (.bipush 31, 2) := by decide +kernel
theorem dX6_readValue_23 : decode cX6_readValue 23 = .ok (.if_icmp .eq 18, 3) := by decide +kernel
theorem dX6_readValue_26 : decode cX6_readValue 26 = .ok (.aload_n 0, 1) := by decide +kernel
theorem dX6_readValue_27 : decode cX6_readValue 27 = .ok (.invokevirtual 206, 3) := by decide +kernel
theorem dX6_readValue_30 : decode cX6_readValue 30 = .ok (.ifCond .ne 11, 3) := by decide +kernel
theorem dX6_readValue_33 : decode cX6_readValue 33 = .ok (.aload_n 0, 1) := by decide +kernel
theorem dX6_readValue_34 : decode cX6_readValue 34 = .ok (.iconst 0, 1) := by decide +kernel
theorem dX6_readValue_35 : decode cX6_readValue 35 = .ok (.invokevirtual 123, 3) := by decide +kernel
theorem dX6_readValue_38 : decode cX6_readValue 38 = .ok (.goto 77, 3) := by decide +kernel
theorem dX6_readValue_41 : decode cX6_readValue 41 = .ok (.aload_n 0, 1) := by decide +kernel
theorem dX6_readValue_42 : decode cX6_readValue 42 = .ok (.getfield 32, 3) := by decide +kernel
theorem dX6_readValue_45 : decode cX6_readValue 45 = .ok (.bipush 60, 2) := by decide +kernel
theorem dX6_readValue_47 : decode cX6_readValue 47 = .ok (.if_icmp .lt 11, 3) := by decide +kernel
theorem dX6_readValue_50 : decode cX6_readValue 50 = .ok (.aload_n 0, 1) := by decide +kernel
theorem dX6_readValue_51 : decode cX6_readValue 51 = .ok (.iconst 3, 1) := by decide +kernel
theorem dX6_readValue_52 : decode cX6_readValue 52 = .ok (.invokevirtual 123, 3) := by decide +kernel
theorem dX6_readValue_55 : decode cX6_readValue 55 = .ok (.goto 60, 3) := by decide +kernel
theorem dX6_readValue_58 : decode cX6_readValue 58 = .ok (.aload_n 0, 1) := by decide +kernel
theorem dX6_readValue_59 : decode cX6_readValue 59 = .ok (.dup, 1) := by decide +kernel
theorem dX6_readValue_60 : decode cX6_readValue 60 = .ok (.getfield 32, 3) := by decide +kernel
theorem dX6_readValue_63 : decode cX6_readValue 63 = .ok (.iconst 1, 1) := by decide +kernel
theorem dX6_readValue_64 : decode cX6_readValue 64 = .ok (.iadd, 1) := by decide +kernel
theorem dX6_readValue_65 : decode cX6_readValue 65 = .ok (.putfield 32, 3) := by decide +kernel
theorem dX6_readValue_68 : decode cX6_readValue 68 = .ok (.aload_n 0, 1) := by decide +kernel
theorem dX6_readValue_69 : decode cX6_readValue 69 = .ok (.getfield 38, 3) := by decide +kernel
theorem dX6_readValue_72 : decode cX6_readValue 72 = .ok (.aload_n 0, 1) := by decide +kernel
theorem dX6_readValue_73 : decode cX6_readValue 73 = .ok (.getfield 46, 3) := by decide +kernel
theorem dX6_readValue_76 : decode cX6_readValue 76 = .ok (.bipush 31, 2) := by decide +kernel
theorem dX6_readValue_78 : decode cX6_readValue 78 = .ok (.if_icmp .ne 8, 3) := by decide +kernel
theorem dX6_readValue_81 : decode cX6_readValue 81 = .ok (.bipush 31, 2) := by decide +kernel
theorem dX6_readValue_83 : decode cX6_readValue 83 = .ok (.goto 5, 3) := by decide +kernel
theorem dX6_readValue_86 : decode cX6_readValue 86 = .ok (.bipush 47, 2) := by decide +kernel
theorem dX6_readValue_88 : decode cX6_readValue 88 = .ok (.aload_n 0, 1) := by decide +kernel
theorem dX6_readValue_89 : decode cX6_readValue 89 = .ok (.getfield 46, 3) := by decide +kernel
theorem dX6_readValue_92 : decode cX6_readValue 92 = .ok (.bipush 31, 2) := by decide +kernel
theorem dX6_readValue_94 : decode cX6_readValue 94 = .ok (.if_icmp .ne 10, 3) := by decide +kernel
theorem dX6_readValue_97 : decode cX6_readValue 97 = .ok (.aload_n 0, 1) := by decide +kernel
theorem dX6_readValue_98 : decode cX6_readValue 98 = .ok (.getfield 56, 3) := by decide +kernel
theorem dX6_readValue_101 : decode cX6_readValue 101 = .ok (.goto 7, 3) := by decide +kernel
theorem dX6_readValue_104 : decode cX6_readValue 104 = .ok (.aload_n 0, 1) := by decide +kernel
theorem dX6_readValue_105 : decode cX6_readValue 105 = .ok (.getfield 46, 3) := by decide +kernel
theorem dX6_readValue_108 : decode cX6_readValue 108 = .ok (.invokevirtual 190, 3) := by decide +kernel
theorem dX6_readValue_111 : decode cX6_readValue 111 = .ok (.aload_n 0, 1) := by decide +kernel
theorem dX6_readValue_112 : decode cX6_readValue 112 = .ok (.invokevirtual 26, 3) := by decide +kernel
theorem dX6_readValue_115 : decode cX6_readValue 115 = .ok (.return_, 1) := by decide +kernel
theorem dX6_isValueWord_0 : decode cX6_isValueWord 0 = .ok (.aload_n 0, 1) := by decide +kernel
theorem dX6_isValueWord_1 : decode cX6_isValueWord 1 = .ok (.getfield 46, 3) := by decide +kernel
theorem dX6_isValueWord_4 : decode cX6_isValueWord 4 = .ok (.bipush 19, 2) := by decide +kernel
theorem dX6_isValueWord_6 : decode cX6_isValueWord 6 = .ok (.if_icmp .eq 21, 3) := by decide +kernel
theorem dX6_isValueWord_9 : decode cX6_isValueWord 9 = .ok (.aload_n 0, 1) := by decide +kernel
theorem dX6_isValueWord_10 : decode cX6_isValueWord 10 = .ok (.getfield 46, 3) := by decide +kernel
theorem dX6_isValueWord_13 : decode cX6_isValueWord 13 = .ok (.bipush 20, 2) := by decide +kernel
theorem dX6_isValueWord_15 : decode cX6_isValueWord 15 = .ok (.if_icmp .eq 12, 3) := by decide +kernel
theorem dX6_isValueWord_18 : decode cX6_isValueWord 18 = .ok (.aload_n 0, 1) := by decide +kernel
theorem dX6_isValueWord_19 : decode cX6_isValueWord 19 = .ok (.getfield 46, 3) := by decide +kernel
theorem dX6_isValueWord_22 : decode cX6_isValueWord 22 = .ok (.bipush 21, 2) := by decide +kernel
theorem dX6_isValueWord_24 : decode cX6_isValueWord 24 = .ok (.if_icmp .ne 5, 3) := by decide +kernel
theorem dX6_isValueWord_27 : decode cX6_isValueWord 27 = .ok (.iconst 1, 1) := by decide +kernel
theorem dX6_isValueWord_28 : decode cX6_isValueWord 28 = .ok (.ireturn, 1) := by decide +kernel
theorem dX6_isValueWord_29 : decode cX6_isValueWord 29 = .ok (.aload_n 0, 1) := by decide +kernel
theorem dX6_isValueWord_30 : decode cX6_isValueWord 30 = .ok (.getfield 42, 3) := by decide +kernel
theorem dX6_isValueWord_33 : decode cX6_isValueWord 33 = .ok (.ifCond .eq 43, 3) := by decide +kernel
theorem dX6_isValueWord_36 : decode cX6_isValueWord 36 = .ok (.aload_n 0, 1) := by decide +kernel
theorem dX6_isValueWord_37 : decode cX6_isValueWord 37 = .ok (.getfield 46, 3) := by decide +kernel
theorem dX6_isValueWord_40 : decode cX6_isValueWord 40 = .ok (.bipush 22, 2) := by decide +kernel
theorem dX6_isValueWord_42 : decode cX6_isValueWord 42 = .ok (.if_icmp .lt 12, 3) := by decide +kernel
theorem dX6_isValueWord_45 : decode cX6_isValueWord 45 = .ok (.aload_n 0, 1) := by decide +kernel
theorem dX6_isValueWord_46 : decode cX6_isValueWord 46 = .ok (.getfield 46, 3) := by decide +kernel
theorem dX6_isValueWord_49 : decode cX6_isValueWord 49 = .ok (.bipush 25, 2) := by decide +kernel
theorem dX6_isValueWord_51 : decode cX6_isValueWord 51 = .ok (.if_icmp .le 21, 3) := by decide +kernel
theorem dX6_isValueWord_54 : decode cX6_isValueWord 54 = .ok (.aload_n 0, 1) := by decide +kernel
theorem dX6_isValueWord_55 : decode cX6_isValueWord 55 = .ok (.getfield 46, 3) := by decide +kernel
theorem dX6_isValueWord_58 : decode cX6_isValueWord 58 = .ok (.bipush 13, 2) := by decide +kernel
theorem dX6_isValueWord_60 : decode cX6_isValueWord 60 = .ok (.if_icmp .eq 12, 3) := by decide +kernel
theorem dX6_isValueWord_63 : decode cX6_isValueWord 63 = .ok (.aload_n 0, 1) := by decide +kernel
theorem dX6_isValueWord_64 : decode cX6_isValueWord 64 = .ok (.getfield 46, 3) := by decide +kernel
theorem dX6_isValueWord_67 : decode cX6_isValueWord 67 = .ok (.bipush 8, 2) := by decide +kernel
theorem dX6_isValueWord_69 : decode cX6_isValueWord 69 = .ok (.if_icmp .ne 7, 3) := by decide +kernel
theorem dX6_isValueWord_72 : decode cX6_isValueWord 72 = .ok (.iconst 1, 1) := by decide +kernel
theorem dX6_isValueWord_73 : decode cX6_isValueWord 73 = .ok (.goto 4, 3) := by decide +kernel
theorem dX6_isValueWord_76 : decode cX6_isValueWord 76 = .ok (.iconst 0, 1) := by decide +kernel
theorem dX6_isValueWord_77 : decode cX6_isValueWord 77 = .ok (.ireturn, 1) := by decide +kernel
theorem dX6_number_0 : decode cX6_number 0 = .ok (.aload_n 0, 1) := by decide +kernel
theorem dX6_number_1 : decode cX6_number 1 = .ok (.getfield 56, 3) := by decide +kernel
theorem dX6_number_4 : decode cX6_number 4 = .ok (.istore_n 3, 1) := by decide +kernel
theorem dX6_number_5 : decode cX6_number 5 = .ok (.aload_n 0, 1) := by decide +kernel
theorem dX6_number_6 : decode cX6_number 6 = .ok (.getfield 46, 3) := by decide +kernel
theorem dX6_number_9 : decode cX6_number 9 = .ok (.bipush 31, 2) := by decide +kernel
theorem dX6_number_11 : decode cX6_number 11 = .ok (.if_icmp .eq 19, 3) := by decide +kernel
theorem dX6_number_14 : decode cX6_number 14 = .ok (.aload_n 0, 1) := by decide +kernel
theorem dX6_number_15 : decode cX6_number 15 = .ok (.getfield 46, 3) := by decide +kernel
theorem dX6_number_18 : decode cX6_number 18 = .ok (.bipush 32, 2) := by decide +kernel
theorem dX6_number_20 : decode cX6_number 20 = .ok (.if_icmp .eq 10, 3) := by decide +kernel
theorem dX6_number_23 : decode cX6_number 23 = .ok (.aload_n 0, 1) := by decide +kernel
theorem dX6_number_24 : decode cX6_number 24 = .ok (.iconst 0, 1) := by decide +kernel
theorem dX6_number_25 : decode cX6_number 25 = .ok (.invokevirtual 123, 3) := by decide +kernel
theorem dX6_number_28 : decode cX6_number 28 = .ok (.iload_n 1, 1) := by decide +kernel
theorem dX6_number_29 : decode cX6_number 29 = .ok (.ireturn, 1) := by decide +kernel
theorem dX6_number_30 : decode cX6_number 30 = .ok (.aload_n 0, 1) := by decide +kernel
theorem dX6_number_31 : decode cX6_number 31 = .ok (.getfield 46, 3) := by decide +kernel
theorem dX6_number_34 : decode cX6_number 34 = .ok (.bipush 32, 2) := by decide +kernel
theorem dX6_number_36 : decode cX6_number 36 = .ok (.if_icmp .eq 13, 3) := by decide +kernel
theorem dX6_number_39 : decode cX6_number 39 = .ok (.iload_n 3, 1) := by decide +kernel
theorem dX6_number_40 : decode cX6_number 40 = .ok (.iload_n 1, 1) := by decide +kernel
theorem dX6_number_41 : decode cX6_number 41 = .ok (.if_icmp .lt 8, 3) := by decide +kernel
theorem dX6_number_44 : decode cX6_number 44 = .ok (.iload_n 3, 1) := by decide +kernel
theorem dX6_number_45 : decode cX6_number 45 = .ok (.iload_n 2, 1) := by decide +kernel
theorem dX6_number_46 : decode cX6_number 46 = .ok (.if_icmp .le 10, 3) := by decide +kernel
theorem dX6_number_49 : decode cX6_number 49 = .ok (.aload_n 0, 1) := by decide +kernel
theorem dX6_number_50 : decode cX6_number 50 = .ok (.iconst 1, 1) := by decide +kernel
theorem dX6_number_51 : decode cX6_number 51 = .ok (.invokevirtual 123, 3) := by decide +kernel
theorem dX6_number_54 : decode cX6_number 54 = .ok (.iload_n 1, 1) := by decide +kernel
theorem dX6_number_55 : decode cX6_number 55 = .ok (.ireturn, 1) := by decide +kernel
theorem dX6_number_56 : decode cX6_number 56 = .ok (.aload_n 0, 1) := by decide +kernel
theorem dX6_number_57 : decode cX6_number 57 = .ok (.invokevirtual 26, 3) := by decide +kernel
theorem dX6_number_60 : decode cX6_number 60 = .ok (.iload_n 3, 1) := by decide +kernel
theorem dX6_number_61 : decode cX6_number 61 = .ok (.ireturn, 1) := by decide +kernel
theorem dX6_expect_0 : decode cX6_expect 0 = .ok (.aload_n 0, 1) := by decide +kernel
theorem dX6_expect_1 : decode cX6_expect 1 = .ok (.getfield 46, 3) := by decide +kernel
theorem dX6_expect_4 : decode cX6_expect 4 = .ok (.iload_n 1, 1) := by decide +kernel
theorem dX6_expect_5 : decode cX6_expect 5 = .ok (.if_icmp .ne 10, 3) := by decide +kernel
theorem dX6_expect_8 : decode cX6_expect 8 = .ok (.aload_n 0, 1) := by decide +kernel
theorem dX6_expect_9 : decode cX6_expect 9 = .ok (.invokevirtual 26, 3) := by decide +kernel
theorem dX6_expect_12 : decode cX6_expect 12 = .ok (.goto 8, 3) := by decide +kernel
theorem dX6_expect_15 : decode cX6_expect 15 = .ok (.aload_n 0, 1) := by decide +kernel
theorem dX6_expect_16 : decode cX6_expect 16 = .ok (.iconst 0, 1) := by decide +kernel
theorem dX6_expect_17 : decode cX6_expect 17 = .ok (.invokevirtual 123, 3) := by decide +kernel
theorem dX6_expect_20 : decode cX6_expect 20 = .ok (.return_, 1) := by decide +kernel
theorem dX6_fail_0 : decode cX6_fail 0 = .ok (.aload_n 0, 1) := by decide +kernel
theorem dX6_fail_1 : decode cX6_fail 1 = .ok (.getfield 29, 3) := by decide +kernel
theorem dX6_fail_4 : decode cX6_fail 4 = .ok (.ifCond .ne 18, 3) := by decide +kernel
theorem dX6_fail_7 : decode cX6_fail 7 = .ok (.aload_n 0, 1) := by decide +kernel
theorem dX6_fail_8 : decode cX6_fail 8 = .ok (.iconst 1, 1) := by decide +kernel
theorem dX6_fail_9 : decode cX6_fail 9 = .ok (.bipush 8, 2) := by decide +kernel
theorem dX6_fail_11 : decode cX6_fail 11 = .ok (.aload_n 0, 1) := by decide +kernel
theorem dX6_fail_12 : decode cX6_fail 12 = .ok (.getfield 62, 3) := by decide +kernel
theorem dX6_fail_15 : decode cX6_fail 15 = .ok (.imul, 1) := by decide +kernel
theorem dX6_fail_16 : decode cX6_fail 16 = .ok (.iadd, 1) := by decide +kernel
theorem dX6_fail_17 : decode cX6_fail 17 = .ok (.iload_n 1, 1) := by decide +kernel
theorem dX6_fail_18 : decode cX6_fail 18 = .ok (.iadd, 1) := by decide +kernel
theorem dX6_fail_19 : decode cX6_fail 19 = .ok (.putfield 29, 3) := by decide +kernel
theorem dX6_fail_22 : decode cX6_fail 22 = .ok (.return_, 1) := by decide +kernel
theorem dX7_init_0 : decode cX7_init 0 = .ok (.aload_n 0, 1) := by decide +kernel
theorem dX7_init_1 : decode cX7_init 1 = .ok (.invokespecial 3, 3) := by decide +kernel
theorem dX7_init_4 : decode cX7_init 4 = .ok (.aload_n 0, 1) := by decide +kernel
theorem dX7_init_5 : decode cX7_init 5 = .ok (.bipush 60, 2) := by decide +kernel
theorem dX7_init_7 : decode cX7_init 7 = .ok (.newarray .int, 2) := by decide +kernel
theorem dX7_init_9 : decode cX7_init 9 = .ok (.putfield 9, 3) := by decide +kernel
theorem dX7_init_12 : decode cX7_init 12 = .ok (.aload_n 0, 1) := by decide +kernel
theorem dX7_init_13 : decode cX7_init 13 = .ok (.bipush 60, 2) := by decide +kernel
theorem dX7_init_15 : decode cX7_init 15 = .ok (.newarray .int, 2) := by decide +kernel
theorem dX7_init_17 : decode cX7_init 17 = .ok (.putfield 15, 3) := by decide +kernel
theorem dX7_init_20 : decode cX7_init 20 = .ok (.aload_n 0, 1) := by decide +kernel
theorem dX7_init_21 : decode cX7_init 21 = .ok (.bipush 60, 2) := by decide +kernel
theorem dX7_init_23 : decode cX7_init 23 = .ok (.newarray .int, 2) := by decide +kernel
theorem dX7_init_25 : decode cX7_init 25 = .ok (.putfield 18, 3) := by decide +kernel
theorem dX7_init_28 : decode cX7_init 28 = .ok (.return_, 1) := by decide +kernel
theorem dX7_take_0 : decode cX7_take 0 = .ok (.aload_n 1, 1) := by decide +kernel
theorem dX7_take_1 : decode cX7_take 1 = .ok (.getfield 9, 3) := by decide +kernel
theorem dX7_take_4 : decode cX7_take 4 = .ok (.iconst 0, 1) := by decide +kernel
theorem dX7_take_5 : decode cX7_take 5 = .ok (.aload_n 0, 1) := by decide +kernel
theorem dX7_take_6 : decode cX7_take 6 = .ok (.getfield 9, 3) := by decide +kernel
theorem dX7_take_9 : decode cX7_take 9 = .ok (.iconst 0, 1) := by decide +kernel
theorem dX7_take_10 : decode cX7_take 10 = .ok (.bipush 60, 2) := by decide +kernel
theorem dX7_take_12 : decode cX7_take 12 = .ok (.invokestatic 21, 3) := by decide +kernel
theorem dX7_take_15 : decode cX7_take 15 = .ok (.aload_n 1, 1) := by decide +kernel
theorem dX7_take_16 : decode cX7_take 16 = .ok (.getfield 15, 3) := by decide +kernel
theorem dX7_take_19 : decode cX7_take 19 = .ok (.iconst 0, 1) := by decide +kernel
theorem dX7_take_20 : decode cX7_take 20 = .ok (.aload_n 0, 1) := by decide +kernel
theorem dX7_take_21 : decode cX7_take 21 = .ok (.getfield 15, 3) := by decide +kernel
theorem dX7_take_24 : decode cX7_take 24 = .ok (.iconst 0, 1) := by decide +kernel
theorem dX7_take_25 : decode cX7_take 25 = .ok (.bipush 60, 2) := by decide +kernel
theorem dX7_take_27 : decode cX7_take 27 = .ok (.invokestatic 21, 3) := by decide +kernel
theorem dX7_take_30 : decode cX7_take 30 = .ok (.aload_n 1, 1) := by decide +kernel
theorem dX7_take_31 : decode cX7_take 31 = .ok (.getfield 18, 3) := by decide +kernel
theorem dX7_take_34 : decode cX7_take 34 = .ok (.iconst 0, 1) := by decide +kernel
theorem dX7_take_35 : decode cX7_take 35 = .ok (.aload_n 0, 1) := by decide +kernel
theorem dX7_take_36 : decode cX7_take 36 = .ok (.getfield 18, 3) := by decide +kernel
theorem dX7_take_39 : decode cX7_take 39 = .ok (.iconst 0, 1) := by decide +kernel
theorem dX7_take_40 : decode cX7_take 40 = .ok (.bipush 60, 2) := by decide +kernel
theorem dX7_take_42 : decode cX7_take 42 = .ok (.invokestatic 21, 3) := by decide +kernel
theorem dX7_take_45 : decode cX7_take 45 = .ok (.aload_n 0, 1) := by decide +kernel
theorem dX7_take_46 : decode cX7_take 46 = .ok (.aload_n 1, 1) := by decide +kernel
theorem dX7_take_47 : decode cX7_take 47 = .ok (.getfield 27, 3) := by decide +kernel
theorem dX7_take_50 : decode cX7_take 50 = .ok (.putfield 27, 3) := by decide +kernel
theorem dX7_take_53 : decode cX7_take 53 = .ok (.return_, 1) := by decide +kernel
theorem dX7_canTake_0 : decode cX7_canTake 0 = .ok (.aload_n 0, 1) := by decide +kernel
theorem dX7_canTake_1 : decode cX7_canTake 1 = .ok (.getfield 27, 3) := by decide +kernel
theorem dX7_canTake_4 : decode cX7_canTake 4 = .ok (.bipush 60, 2) := by decide +kernel
theorem dX7_canTake_6 : decode cX7_canTake 6 = .ok (.if_icmp .ge 29, 3) := by decide +kernel
theorem dX7_canTake_9 : decode cX7_canTake 9 = .ok (.aload_n 0, 1) := by decide +kernel
theorem dX7_canTake_10 : decode cX7_canTake 10 = .ok (.getfield 27, 3) := by decide +kernel
theorem dX7_canTake_13 : decode cX7_canTake 13 = .ok (.ifCond .eq 18, 3) := by decide +kernel
theorem dX7_canTake_16 : decode cX7_canTake 16 = .ok (.aload_n 0, 1) := by decide +kernel
theorem dX7_canTake_17 : decode cX7_canTake 17 = .ok (.getfield 9, 3) := by decide +kernel
theorem dX7_canTake_20 : decode cX7_canTake 20 = .ok (.aload_n 0, 1) := by decide +kernel
theorem dX7_canTake_21 : decode cX7_canTake 21 = .ok (.getfield 27, 3) := by decide +kernel
theorem dX7_canTake_24 : decode cX7_canTake 24 = .ok (.iconst 1, 1) := by decide +kernel
theorem dX7_canTake_25 : decode cX7_canTake 25 = .ok (.isub, 1) := by decide +kernel
theorem dX7_canTake_26 : decode cX7_canTake 26 = .ok (.iaload, 1) := by decide +kernel
theorem dX7_canTake_27 : decode cX7_canTake 27 = .ok (.iload_n 1, 1) := by decide +kernel
theorem dX7_canTake_28 : decode cX7_canTake 28 = .ok (.if_icmp .gt 7, 3) := by decide +kernel
theorem dX7_canTake_31 : decode cX7_canTake 31 = .ok (.iconst 1, 1) := by decide +kernel
theorem dX7_canTake_32 : decode cX7_canTake 32 = .ok (.goto 4, 3) := by decide +kernel
theorem dX7_canTake_35 : decode cX7_canTake 35 = .ok (.iconst 0, 1) := by decide +kernel
theorem dX7_canTake_36 : decode cX7_canTake 36 = .ok (.ireturn, 1) := by decide +kernel
theorem dX7_add_0 : decode cX7_add 0 = .ok (.aload_n 0, 1) := by decide +kernel
theorem dX7_add_1 : decode cX7_add 1 = .ok (.getfield 27, 3) := by decide +kernel
theorem dX7_add_4 : decode cX7_add 4 = .ok (.bipush 60, 2) := by decide +kernel
theorem dX7_add_6 : decode cX7_add 6 = .ok (.if_icmp .ge 43, 3) := by decide +kernel
theorem dX7_add_9 : decode cX7_add 9 = .ok (.aload_n 0, 1) := by decide +kernel
theorem dX7_add_10 : decode cX7_add 10 = .ok (.getfield 9, 3) := by decide +kernel
theorem dX7_add_13 : decode cX7_add 13 = .ok (.aload_n 0, 1) := by decide +kernel
theorem dX7_add_14 : decode cX7_add 14 = .ok (.getfield 27, 3) := by decide +kernel
theorem dX7_add_17 : decode cX7_add 17 = .ok (.iload_n 1, 1) := by decide +kernel
theorem dX7_add_18 : decode cX7_add 18 = .ok (.iastore, 1) := by decide +kernel
theorem dX7_add_19 : decode cX7_add 19 = .ok (.aload_n 0, 1) := by decide +kernel
theorem dX7_add_20 : decode cX7_add 20 = .ok (.getfield 15, 3) := by decide +kernel
theorem dX7_add_23 : decode cX7_add 23 = .ok (.aload_n 0, 1) := by decide +kernel
theorem dX7_add_24 : decode cX7_add 24 = .ok (.getfield 27, 3) := by decide +kernel
theorem dX7_add_27 : decode cX7_add 27 = .ok (.iload_n 2, 1) := by decide +kernel
theorem dX7_add_28 : decode cX7_add 28 = .ok (.iastore, 1) := by decide +kernel
theorem dX7_add_29 : decode cX7_add 29 = .ok (.aload_n 0, 1) := by decide +kernel
theorem dX7_add_30 : decode cX7_add 30 = .ok (.getfield 18, 3) := by decide +kernel
theorem dX7_add_33 : decode cX7_add 33 = .ok (.aload_n 0, 1) := by decide +kernel
theorem dX7_add_34 : decode cX7_add 34 = .ok (.getfield 27, 3) := by decide +kernel
theorem dX7_add_37 : decode cX7_add 37 = .ok (.iload_n 3, 1) := by decide +kernel
theorem dX7_add_38 : decode cX7_add 38 = .ok (.iastore, 1) := by decide +kernel
theorem dX7_add_39 : decode cX7_add 39 = .ok (.aload_n 0, 1) := by decide +kernel
theorem dX7_add_40 : decode cX7_add 40 = .ok (.dup, 1) := by decide +kernel
theorem dX7_add_41 : decode cX7_add 41 = .ok (.getfield 27, 3) := by decide +kernel
theorem dX7_add_44 : decode cX7_add 44 = .ok (.iconst 1, 1) := by decide +kernel
theorem dX7_add_45 : decode cX7_add 45 = .ok (.iadd, 1) := by decide +kernel
theorem dX7_add_46 : decode cX7_add 46 = .ok (.putfield 27, 3) := by decide +kernel
theorem dX7_add_49 : decode cX7_add 49 = .ok (.return_, 1) := by decide +kernel
theorem dX8_init_0 : decode cX8_init 0 = .ok (.aload_n 0, 1) := by decide +kernel
theorem dX8_init_1 : decode cX8_init 1 = .ok (.invokespecial 3, 3) := by decide +kernel
theorem dX8_init_4 : decode cX8_init 4 = .ok (.aload_n 0, 1) := by decide +kernel
theorem dX8_init_5 : decode cX8_init 5 = .ok (.bipush 12, 2) := by decide +kernel
theorem dX8_init_7 : decode cX8_init 7 = .ok (.newarray .int, 2) := by decide +kernel
theorem dX8_init_9 : decode cX8_init 9 = .ok (.putfield 9, 3) := by decide +kernel
theorem dX8_init_12 : decode cX8_init 12 = .ok (.aload_n 0, 1) := by decide +kernel
theorem dX8_init_13 : decode cX8_init 13 = .ok (.bipush 12, 2) := by decide +kernel
theorem dX8_init_15 : decode cX8_init 15 = .ok (.newarray .int, 2) := by decide +kernel
theorem dX8_init_17 : decode cX8_init 17 = .ok (.putfield 15, 3) := by decide +kernel
theorem dX8_init_20 : decode cX8_init 20 = .ok (.aload_n 0, 1) := by decide +kernel
theorem dX8_init_21 : decode cX8_init 21 = .ok (.new 18, 3) := by decide +kernel
theorem dX8_init_24 : decode cX8_init 24 = .ok (.dup, 1) := by decide +kernel
theorem dX8_init_25 : decode cX8_init 25 = .ok (.invokespecial 20, 3) := by decide +kernel
theorem dX8_init_28 : decode cX8_init 28 = .ok (.putfield 21, 3) := by decide +kernel
theorem dX8_init_31 : decode cX8_init 31 = .ok (.return_, 1) := by decide +kernel
theorem dX8_clear_0 : decode cX8_clear 0 = .ok (.aload_n 0, 1) := by decide +kernel
theorem dX8_clear_1 : decode cX8_clear 1 = .ok (.iconst 0, 1) := by decide +kernel
theorem dX8_clear_2 : decode cX8_clear 2 = .ok (.putfield 25, 3) := by decide +kernel
theorem dX8_clear_5 : decode cX8_clear 5 = .ok (.aload_n 0, 1) := by decide +kernel
theorem dX8_clear_6 : decode cX8_clear 6 = .ok (.iconst 0, 1) := by decide +kernel
theorem dX8_clear_7 : decode cX8_clear 7 = .ok (.putfield 29, 3) := by decide +kernel
theorem dX8_clear_10 : decode cX8_clear 10 = .ok (.aload_n 0, 1) := by decide +kernel
theorem dX8_clear_11 : decode cX8_clear 11 = .ok (.getfield 21, 3) := by decide +kernel
theorem dX8_clear_14 : decode cX8_clear 14 = .ok (.invokevirtual 32, 3) := by decide +kernel
theorem dX8_clear_17 : decode cX8_clear 17 = .ok (.return_, 1) := by decide +kernel
theorem dX8_add_0 : decode cX8_add 0 = .ok (.aload_n 0, 1) := by decide +kernel
theorem dX8_add_1 : decode cX8_add 1 = .ok (.getfield 25, 3) := by decide +kernel
theorem dX8_add_4 : decode cX8_add 4 = .ok (.bipush 12, 2) := by decide +kernel
theorem dX8_add_6 : decode cX8_add 6 = .ok (.if_icmp .ge 33, 3) := by decide +kernel
theorem dX8_add_9 : decode cX8_add 9 = .ok (.aload_n 0, 1) := by decide +kernel
theorem dX8_add_10 : decode cX8_add 10 = .ok (.getfield 9, 3) := by decide +kernel
theorem dX8_add_13 : decode cX8_add 13 = .ok (.aload_n 0, 1) := by decide +kernel
theorem dX8_add_14 : decode cX8_add 14 = .ok (.getfield 25, 3) := by decide +kernel
theorem dX8_add_17 : decode cX8_add 17 = .ok (.iload_n 1, 1) := by decide +kernel
theorem dX8_add_18 : decode cX8_add 18 = .ok (.iastore, 1) := by decide +kernel
theorem dX8_add_19 : decode cX8_add 19 = .ok (.aload_n 0, 1) := by decide +kernel
theorem dX8_add_20 : decode cX8_add 20 = .ok (.getfield 15, 3) := by decide +kernel
theorem dX8_add_23 : decode cX8_add 23 = .ok (.aload_n 0, 1) := by decide +kernel
theorem dX8_add_24 : decode cX8_add 24 = .ok (.getfield 25, 3) := by decide +kernel
theorem dX8_add_27 : decode cX8_add 27 = .ok (.iload_n 2, 1) := by decide +kernel
theorem dX8_add_28 : decode cX8_add 28 = .ok (.iastore, 1) := by decide +kernel
theorem dX8_add_29 : decode cX8_add 29 = .ok (.aload_n 0, 1) := by decide +kernel
theorem dX8_add_30 : decode cX8_add 30 = .ok (.dup, 1) := by decide +kernel
theorem dX8_add_31 : decode cX8_add 31 = .ok (.getfield 25, 3) := by decide +kernel
theorem dX8_add_34 : decode cX8_add 34 = .ok (.iconst 1, 1) := by decide +kernel
theorem dX8_add_35 : decode cX8_add 35 = .ok (.iadd, 1) := by decide +kernel
theorem dX8_add_36 : decode cX8_add 36 = .ok (.putfield 25, 3) := by decide +kernel
theorem dX8_add_39 : decode cX8_add 39 = .ok (.return_, 1) := by decide +kernel
theorem dX8_valueIn_0 : decode cX8_valueIn 0 = .ok (.iconst 0, 1) := by decide +kernel
theorem dX8_valueIn_1 : decode cX8_valueIn 1 = .ok (.istore_n 2, 1) := by decide +kernel
theorem dX8_valueIn_2 : decode cX8_valueIn 2 = .ok (.iload_n 2, 1) := by decide +kernel
theorem dX8_valueIn_3 : decode cX8_valueIn 3 = .ok (.aload_n 0, 1) := by decide +kernel
theorem dX8_valueIn_4 : decode cX8_valueIn 4 = .ok (.getfield 25, 3) := by decide +kernel
theorem dX8_valueIn_7 : decode cX8_valueIn 7 = .ok (.if_icmp .ge 59, 3) := by decide +kernel
theorem dX8_valueIn_10 : decode cX8_valueIn 10 = .ok (.iload_n 2, 1) := by decide +kernel
theorem dX8_valueIn_11 : decode cX8_valueIn 11 = .ok (.bipush 12, 2) := by decide +kernel
theorem dX8_valueIn_13 : decode cX8_valueIn 13 = .ok (.if_icmp .ge 53, 3) := by decide +kernel
theorem dX8_valueIn_16 : decode cX8_valueIn 16 = .ok (.aload_n 0, 1) := by decide +kernel
theorem dX8_valueIn_17 : decode cX8_valueIn 17 = .ok (.getfield 15, 3) := by decide +kernel
theorem dX8_valueIn_20 : decode cX8_valueIn 20 = .ok (.iload_n 2, 1) := by decide +kernel
theorem dX8_valueIn_21 : decode cX8_valueIn 21 = .ok (.iaload, 1) := by decide +kernel
theorem dX8_valueIn_22 : decode cX8_valueIn 22 = .ok (.iconst (-1), 1) := by decide +kernel
theorem dX8_valueIn_23 : decode cX8_valueIn 23 = .ok (.if_icmp .eq 22, 3) := by decide +kernel
theorem dX8_valueIn_26 : decode cX8_valueIn 26 = .ok (.aload_n 1, 1) := by decide +kernel
theorem dX8_valueIn_27 : decode cX8_valueIn 27 = .ok (.aload_n 0, 1) := by decide +kernel
theorem dX8_valueIn_28 : decode cX8_valueIn 28 = .ok (.getfield 21, 3) := by decide +kernel
theorem dX8_valueIn_31 : decode cX8_valueIn 31 = .ok (.aload_n 0, 1) := by decide +kernel
theorem dX8_valueIn_32 : decode cX8_valueIn 32 = .ok (.getfield 15, 3) := by decide +kernel
theorem dX8_valueIn_35 : decode cX8_valueIn 35 = .ok (.iload_n 2, 1) := by decide +kernel
theorem dX8_valueIn_36 : decode cX8_valueIn 36 = .ok (.iaload, 1) := by decide +kernel
theorem dX8_valueIn_37 : decode cX8_valueIn 37 = .ok (.invokevirtual 35, 3) := by decide +kernel
theorem dX8_valueIn_40 : decode cX8_valueIn 40 = .ok (.lconst 0, 1) := by decide +kernel
theorem dX8_valueIn_41 : decode cX8_valueIn 41 = .ok (.lcmp, 1) := by decide +kernel
theorem dX8_valueIn_42 : decode cX8_valueIn 42 = .ok (.ifCond .eq 18, 3) := by decide +kernel
theorem dX8_valueIn_45 : decode cX8_valueIn 45 = .ok (.aload_n 1, 1) := by decide +kernel
theorem dX8_valueIn_46 : decode cX8_valueIn 46 = .ok (.aload_n 0, 1) := by decide +kernel
theorem dX8_valueIn_47 : decode cX8_valueIn 47 = .ok (.getfield 21, 3) := by decide +kernel
theorem dX8_valueIn_50 : decode cX8_valueIn 50 = .ok (.aload_n 0, 1) := by decide +kernel
theorem dX8_valueIn_51 : decode cX8_valueIn 51 = .ok (.getfield 9, 3) := by decide +kernel
theorem dX8_valueIn_54 : decode cX8_valueIn 54 = .ok (.iload_n 2, 1) := by decide +kernel
theorem dX8_valueIn_55 : decode cX8_valueIn 55 = .ok (.iaload, 1) := by decide +kernel
theorem dX8_valueIn_56 : decode cX8_valueIn 56 = .ok (.invokevirtual 35, 3) := by decide +kernel
theorem dX8_valueIn_59 : decode cX8_valueIn 59 = .ok (.lreturn, 1) := by decide +kernel
theorem dX8_valueIn_60 : decode cX8_valueIn 60 = .ok (.iinc 2 1, 3) := by decide +kernel
theorem dX8_valueIn_63 : decode cX8_valueIn 63 = .ok (.goto (-61), 3) := by decide +kernel
theorem dX8_valueIn_66 : decode cX8_valueIn 66 = .ok (.lconst 0, 1) := by decide +kernel
theorem dX8_valueIn_67 : decode cX8_valueIn 67 = .ok (.lreturn, 1) := by decide +kernel
theorem dX9_init_0 : decode cX9_init 0 = .ok (.aload_n 0, 1) := by decide +kernel
theorem dX9_init_1 : decode cX9_init 1 = .ok (.invokespecial 3, 3) := by decide +kernel
theorem dX9_init_4 : decode cX9_init 4 = .ok (.aload_n 0, 1) := by decide +kernel
theorem dX9_init_5 : decode cX9_init 5 = .ok (.bipush 26, 2) := by decide +kernel
theorem dX9_init_7 : decode cX9_init 7 = .ok (.newarray .long, 2) := by decide +kernel
theorem dX9_init_9 : decode cX9_init 9 = .ok (.putfield 9, 3) := by decide +kernel
theorem dX9_init_12 : decode cX9_init 12 = .ok (.aload_n 0, 1) := by decide +kernel
theorem dX9_init_13 : decode cX9_init 13 = .ok (.bipush 64, 2) := by decide +kernel
theorem dX9_init_15 : decode cX9_init 15 = .ok (.newarray .long, 2) := by decide +kernel
theorem dX9_init_17 : decode cX9_init 17 = .ok (.putfield 15, 3) := by decide +kernel
theorem dX9_init_20 : decode cX9_init 20 = .ok (.return_, 1) := by decide +kernel
theorem dX9_place_0 : decode cX9_place 0 = .ok (.aload_n 0, 1) := by decide +kernel
theorem dX9_place_1 : decode cX9_place 1 = .ok (.getfield 9, 3) := by decide +kernel
theorem dX9_place_4 : decode cX9_place 4 = .ok (.bipush 19, 2) := by decide +kernel
theorem dX9_place_6 : decode cX9_place 6 = .ok (.iload_n 1, 1) := by decide +kernel
theorem dX9_place_7 : decode cX9_place 7 = .ok (.i2l, 1) := by decide +kernel
theorem dX9_place_8 : decode cX9_place 8 = .ok (.lastore, 1) := by decide +kernel
theorem dX9_place_9 : decode cX9_place 9 = .ok (.aload_n 0, 1) := by decide +kernel
theorem dX9_place_10 : decode cX9_place 10 = .ok (.getfield 9, 3) := by decide +kernel
theorem dX9_place_13 : decode cX9_place 13 = .ok (.bipush 20, 2) := by decide +kernel
theorem dX9_place_15 : decode cX9_place 15 = .ok (.iload_n 2, 1) := by decide +kernel
theorem dX9_place_16 : decode cX9_place 16 = .ok (.invokestatic 18, 3) := by decide +kernel
theorem dX9_place_19 : decode cX9_place 19 = .ok (.i2l, 1) := by decide +kernel
theorem dX9_place_20 : decode cX9_place 20 = .ok (.lastore, 1) := by decide +kernel
theorem dX9_place_21 : decode cX9_place 21 = .ok (.aload_n 0, 1) := by decide +kernel
theorem dX9_place_22 : decode cX9_place 22 = .ok (.getfield 9, 3) := by decide +kernel
theorem dX9_place_25 : decode cX9_place 25 = .ok (.bipush 21, 2) := by decide +kernel
theorem dX9_place_27 : decode cX9_place 27 = .ok (.iload_n 3, 1) := by decide +kernel
theorem dX9_place_28 : decode cX9_place 28 = .ok (.invokestatic 18, 3) := by decide +kernel
theorem dX9_place_31 : decode cX9_place 31 = .ok (.i2l, 1) := by decide +kernel
theorem dX9_place_32 : decode cX9_place 32 = .ok (.lastore, 1) := by decide +kernel
theorem dX9_place_33 : decode cX9_place 33 = .ok (.return_, 1) := by decide +kernel
theorem dX9_valueAt_0 : decode cX9_valueAt 0 = .ok (.iconst 0, 1) := by decide +kernel
theorem dX9_valueAt_1 : decode cX9_valueAt 1 = .ok (.istore_n 3, 1) := by decide +kernel
theorem dX9_valueAt_2 : decode cX9_valueAt 2 = .ok (.iload_n 2, 1) := by decide +kernel
theorem dX9_valueAt_3 : decode cX9_valueAt 3 = .ok (.istore 4, 2) := by decide +kernel
theorem dX9_valueAt_5 : decode cX9_valueAt 5 = .ok (.iload 4, 2) := by decide +kernel
theorem dX9_valueAt_7 : decode cX9_valueAt 7 = .ok (.sipush 512, 3) := by decide +kernel
theorem dX9_valueAt_10 : decode cX9_valueAt 10 = .ok (.if_icmp .ge 153, 3) := by decide +kernel
theorem dX9_valueAt_13 : decode cX9_valueAt 13 = .ok (.aload_n 1, 1) := by decide +kernel
theorem dX9_valueAt_14 : decode cX9_valueAt 14 = .ok (.iload 4, 2) := by decide +kernel
theorem dX9_valueAt_16 : decode cX9_valueAt 16 = .ok (.invokevirtual 24, 3) := by decide +kernel
theorem dX9_valueAt_19 : decode cX9_valueAt 19 = .ok (.istore 5, 2) := by decide +kernel
theorem dX9_valueAt_21 : decode cX9_valueAt 21 = .ok (.iload 5, 2) := by decide +kernel
theorem dX9_valueAt_23 : decode cX9_valueAt 23 = .ok (.bipush 48, 2) := by decide +kernel
theorem dX9_valueAt_25 : decode cX9_valueAt 25 = .ok (.if_icmp .ne 6, 3) := by decide +kernel
theorem dX9_valueAt_28 : decode cX9_valueAt 28 = .ok (.goto 135, 3) := by decide +kernel
theorem dX9_valueAt_31 : decode cX9_valueAt 31 = .ok (.iload 5, 2) := by decide +kernel
theorem dX9_valueAt_33 : decode cX9_valueAt 33 = .ok (.bipush 31, 2) := by decide +kernel
theorem dX9_valueAt_35 : decode cX9_valueAt 35 = .ok (.if_icmp .eq 10, 3) := by decide +kernel
theorem dX9_valueAt_38 : decode cX9_valueAt 38 = .ok (.iload 5, 2) := by decide +kernel
theorem dX9_valueAt_40 : decode cX9_valueAt 40 = .ok (.bipush 47, 2) := by decide +kernel
theorem dX9_valueAt_42 : decode cX9_valueAt 42 = .ok (.if_icmp .ne 48, 3) := by decide +kernel
theorem dX9_valueAt_45 : decode cX9_valueAt 45 = .ok (.aload_n 1, 1) := by decide +kernel
theorem dX9_valueAt_46 : decode cX9_valueAt 46 = .ok (.iload 4, 2) := by decide +kernel
theorem dX9_valueAt_48 : decode cX9_valueAt 48 = .ok (.invokevirtual 29, 3) := by decide +kernel
theorem dX9_valueAt_51 : decode cX9_valueAt 51 = .ok (.istore 6, 2) := by decide +kernel
theorem dX9_valueAt_53 : decode cX9_valueAt 53 = .ok (.iload_n 3, 1) := by decide +kernel
theorem dX9_valueAt_54 : decode cX9_valueAt 54 = .ok (.bipush 64, 2) := by decide +kernel
theorem dX9_valueAt_56 : decode cX9_valueAt 56 = .ok (.if_icmp .ge 31, 3) := by decide +kernel
theorem dX9_valueAt_59 : decode cX9_valueAt 59 = .ok (.aload_n 0, 1) := by decide +kernel
theorem dX9_valueAt_60 : decode cX9_valueAt 60 = .ok (.getfield 15, 3) := by decide +kernel
theorem dX9_valueAt_63 : decode cX9_valueAt 63 = .ok (.iload_n 3, 1) := by decide +kernel
theorem dX9_valueAt_64 : decode cX9_valueAt 64 = .ok (.iload 5, 2) := by decide +kernel
theorem dX9_valueAt_66 : decode cX9_valueAt 66 = .ok (.bipush 31, 2) := by decide +kernel
theorem dX9_valueAt_68 : decode cX9_valueAt 68 = .ok (.if_icmp .ne 9, 3) := by decide +kernel
theorem dX9_valueAt_71 : decode cX9_valueAt 71 = .ok (.iload 6, 2) := by decide +kernel
theorem dX9_valueAt_73 : decode cX9_valueAt 73 = .ok (.i2l, 1) := by decide +kernel
theorem dX9_valueAt_74 : decode cX9_valueAt 74 = .ok (.goto 9, 3) := by decide +kernel
theorem dX9_valueAt_77 : decode cX9_valueAt 77 = .ok (.aload_n 0, 1) := by decide +kernel
theorem dX9_valueAt_78 : decode cX9_valueAt 78 = .ok (.iload 6, 2) := by decide +kernel
theorem dX9_valueAt_80 : decode cX9_valueAt 80 = .ok (.invokevirtual 32, 3) := by decide +kernel
theorem dX9_valueAt_83 : decode cX9_valueAt 83 = .ok (.lastore, 1) := by decide +kernel
theorem dX9_valueAt_84 : decode cX9_valueAt 84 = .ok (.iinc 3 1, 3) := by decide +kernel
theorem dX9_valueAt_87 : decode cX9_valueAt 87 = .ok (.goto 70, 3) := by decide +kernel
theorem dX9_valueAt_90 : decode cX9_valueAt 90 = .ok (.iload 5, 2) := by decide +kernel
theorem dX9_valueAt_92 : decode cX9_valueAt 92 = .ok (.bipush 18, 2) := by decide +kernel
theorem dX9_valueAt_94 : decode cX9_valueAt 94 = .ok (.if_icmp .ne 28, 3) := by decide +kernel
theorem dX9_valueAt_97 : decode cX9_valueAt 97 = .ok (.iload_n 3, 1) := by decide +kernel
theorem dX9_valueAt_98 : decode cX9_valueAt 98 = .ok (.ifCond .le 59, 3) := by decide +kernel
theorem dX9_valueAt_101 : decode cX9_valueAt 101 = .ok (.aload_n 0, 1) := by decide +kernel
theorem dX9_valueAt_102 : decode cX9_valueAt 102 = .ok (.getfield 15, 3) := by decide +kernel
theorem dX9_valueAt_105 : decode cX9_valueAt 105 = .ok (.iload_n 3, 1) := by decide +kernel
theorem dX9_valueAt_106 : decode cX9_valueAt 106 = .ok (.iconst 1, 1) := by decide +kernel
theorem dX9_valueAt_107 : decode cX9_valueAt 107 = .ok (.isub, 1) := by decide +kernel
theorem dX9_valueAt_108 : decode cX9_valueAt 108 = .ok (.lconst 1, 1) := by decide +kernel
theorem dX9_valueAt_109 : decode cX9_valueAt 109 = .ok (.aload_n 0, 1) := by decide +kernel
theorem dX9_valueAt_110 : decode cX9_valueAt 110 = .ok (.getfield 15, 3) := by decide +kernel
theorem dX9_valueAt_113 : decode cX9_valueAt 113 = .ok (.iload_n 3, 1) := by decide +kernel
theorem dX9_valueAt_114 : decode cX9_valueAt 114 = .ok (.iconst 1, 1) := by decide +kernel
theorem dX9_valueAt_115 : decode cX9_valueAt 115 = .ok (.isub, 1) := by decide +kernel
theorem dX9_valueAt_116 : decode cX9_valueAt 116 = .ok (.laload, 1) := by decide +kernel
theorem dX9_valueAt_117 : decode cX9_valueAt 117 = .ok (.lsub, 1) := by decide +kernel
theorem dX9_valueAt_118 : decode cX9_valueAt 118 = .ok (.lastore, 1) := by decide +kernel
theorem dX9_valueAt_119 : decode cX9_valueAt 119 = .ok (.goto 38, 3) := by decide +kernel
theorem dX9_valueAt_122 : decode cX9_valueAt 122 = .ok (.iload_n 3, 1) := by decide +kernel
theorem dX9_valueAt_123 : decode cX9_valueAt 123 = .ok (.iconst 1, 1) := by decide +kernel
theorem dX9_valueAt_124 : decode cX9_valueAt 124 = .ok (.if_icmp .le 33, 3) := by decide +kernel
theorem dX9_valueAt_127 : decode cX9_valueAt 127 = .ok (.iinc 3 (-1), 3) := by decide +kernel
theorem dX9_valueAt_130 : decode cX9_valueAt 130 = .ok (.aload_n 0, 1) := by decide +kernel
theorem dX9_valueAt_131 : decode cX9_valueAt 131 = .ok (.getfield 15, 3) := by decide +kernel
theorem dX9_valueAt_134 : decode cX9_valueAt 134 = .ok (.iload_n 3, 1) := by decide +kernel
theorem dX9_valueAt_135 : decode cX9_valueAt 135 = .ok (.iconst 1, 1) := by decide +kernel
theorem dX9_valueAt_136 : decode cX9_valueAt 136 = .ok (.isub, 1) := by decide +kernel
theorem dX9_valueAt_137 : decode cX9_valueAt 137 = .ok (.iload 5, 2) := by decide +kernel
theorem dX9_valueAt_139 : decode cX9_valueAt 139 = .ok (.aload_n 0, 1) := by decide +kernel
theorem dX9_valueAt_140 : decode cX9_valueAt 140 = .ok (.getfield 15, 3) := by decide +kernel
theorem dX9_valueAt_143 : decode cX9_valueAt 143 = .ok (.iload_n 3, 1) := by decide +kernel
theorem dX9_valueAt_144 : decode cX9_valueAt 144 = .ok (.iconst 1, 1) := by decide +kernel
theorem dX9_valueAt_145 : decode cX9_valueAt 145 = .ok (.isub, 1) := by decide +kernel
theorem dX9_valueAt_146 : decode cX9_valueAt 146 = .ok (.laload, 1) := by decide +kernel
theorem dX9_valueAt_147 : decode cX9_valueAt 147 = .ok (.aload_n 0, 1) := by decide +kernel
theorem dX9_valueAt_148 : decode cX9_valueAt 148 = .ok (.getfield 15, 3) := by decide +kernel
theorem dX9_valueAt_151 : decode cX9_valueAt 151 = .ok (.iload_n 3, 1) := by decide +kernel
theorem dX9_valueAt_152 : decode cX9_valueAt 152 = .ok (.laload, 1) := by decide +kernel
theorem dX9_valueAt_153 : decode cX9_valueAt 153 = .ok (.invokestatic 36, 3) := by decide +kernel
theorem dX9_valueAt_156 : decode cX9_valueAt 156 = .ok (.lastore, 1) := by decide +kernel
theorem dX9_valueAt_157 : decode cX9_valueAt 157 = .ok (.iinc 4 1, 3) := by decide +kernel
theorem dX9_valueAt_160 : decode cX9_valueAt 160 = .ok (.goto (-155), 3) := by decide +kernel
theorem dX9_valueAt_163 : decode cX9_valueAt 163 = .ok (.iload_n 3, 1) := by decide +kernel
theorem dX9_valueAt_164 : decode cX9_valueAt 164 = .ok (.ifCond .le 12, 3) := by decide +kernel
theorem dX9_valueAt_167 : decode cX9_valueAt 167 = .ok (.aload_n 0, 1) := by decide +kernel
theorem dX9_valueAt_168 : decode cX9_valueAt 168 = .ok (.getfield 15, 3) := by decide +kernel
theorem dX9_valueAt_171 : decode cX9_valueAt 171 = .ok (.iconst 0, 1) := by decide +kernel
theorem dX9_valueAt_172 : decode cX9_valueAt 172 = .ok (.laload, 1) := by decide +kernel
theorem dX9_valueAt_173 : decode cX9_valueAt 173 = .ok (.goto 4, 3) := by decide +kernel
theorem dX9_valueAt_176 : decode cX9_valueAt 176 = .ok (.lconst 0, 1) := by decide +kernel
theorem dX9_valueAt_177 : decode cX9_valueAt 177 = .ok (.lreturn, 1) := by decide +kernel
theorem dX9_wordValue_0 : decode cX9_wordValue 0 = .ok (.iload_n 1, 1) := by decide +kernel
theorem dX9_wordValue_1 : decode cX9_wordValue 1 = .ok (.ifCond .lt 18, 3) := by decide +kernel
theorem dX9_wordValue_4 : decode cX9_wordValue 4 = .ok (.iload_n 1, 1) := by decide +kernel
theorem dX9_wordValue_5 : decode cX9_wordValue 5 = .ok (.bipush 26, 2) := by decide +kernel
theorem dX9_wordValue_7 : decode cX9_wordValue 7 = .ok (.if_icmp .ge 12, 3) := by decide +kernel
theorem dX9_wordValue_10 : decode cX9_wordValue 10 = .ok (.aload_n 0, 1) := by decide +kernel
theorem dX9_wordValue_11 : decode cX9_wordValue 11 = .ok (.getfield 9, 3) := by decide +kernel
theorem dX9_wordValue_14 : decode cX9_wordValue 14 = .ok (.iload_n 1, 1) := by decide +kernel
theorem dX9_wordValue_15 : decode cX9_wordValue 15 = .ok (.laload, 1) := by decide +kernel
theorem dX9_wordValue_16 : decode cX9_wordValue 16 = .ok (.goto 4, 3) := by decide +kernel
theorem dX9_wordValue_19 : decode cX9_wordValue 19 = .ok (.lconst 0, 1) := by decide +kernel
theorem dX9_wordValue_20 : decode cX9_wordValue 20 = .ok (.lreturn, 1) := by decide +kernel
theorem dX9_joined_0 : decode cX9_joined 0 = .ok (.iload_n 0, 1) := by decide +kernel
set_option maxRecDepth 20000 in
theorem dX9_joined_1 : decode cX9_joined 1 = .ok (.tableswitch 217 17 44 #[213, 217, 217, 217, 217, 217, 217, 217, 217, 217, 217, 217, 217, 217, 217, 217, 217, 217, 217, 127, 131, 135, 139, 153, 165, 177, 189, 201], 127) := by decide +kernel
theorem dX9_joined_128 : decode cX9_joined 128 = .ok (.lload_n 1, 1) := by decide +kernel
theorem dX9_joined_129 : decode cX9_joined 129 = .ok (.lload_n 3, 1) := by decide +kernel
theorem dX9_joined_130 : decode cX9_joined 130 = .ok (.ladd, 1) := by decide +kernel
theorem dX9_joined_131 : decode cX9_joined 131 = .ok (.lreturn, 1) := by decide +kernel
theorem dX9_joined_132 : decode cX9_joined 132 = .ok (.lload_n 1, 1) := by decide +kernel
theorem dX9_joined_133 : decode cX9_joined 133 = .ok (.lload_n 3, 1) := by decide +kernel
theorem dX9_joined_134 : decode cX9_joined 134 = .ok (.lsub, 1) := by decide +kernel
theorem dX9_joined_135 : decode cX9_joined 135 = .ok (.lreturn, 1) := by decide +kernel
theorem dX9_joined_136 : decode cX9_joined 136 = .ok (.lload_n 1, 1) := by decide +kernel
theorem dX9_joined_137 : decode cX9_joined 137 = .ok (.lload_n 3, 1) := by decide +kernel
theorem dX9_joined_138 : decode cX9_joined 138 = .ok (.lmul, 1) := by decide +kernel
theorem dX9_joined_139 : decode cX9_joined 139 = .ok (.lreturn, 1) := by decide +kernel
theorem dX9_joined_140 : decode cX9_joined 140 = .ok (.lload_n 3, 1) := by decide +kernel
theorem dX9_joined_141 : decode cX9_joined 141 = .ok (.lconst 0, 1) := by decide +kernel
theorem dX9_joined_142 : decode cX9_joined 142 = .ok (.lcmp, 1) := by decide +kernel
theorem dX9_joined_143 : decode cX9_joined 143 = .ok (.ifCond .ne 7, 3) := by decide +kernel
theorem dX9_joined_146 : decode cX9_joined 146 = .ok (.lconst 0, 1) := by decide +kernel
theorem dX9_joined_147 : decode cX9_joined 147 = .ok (.goto 6, 3) := by decide +kernel
theorem dX9_joined_150 : decode cX9_joined 150 = .ok (.lload_n 1, 1) := by decide +kernel
theorem dX9_joined_151 : decode cX9_joined 151 = .ok (.lload_n 3, 1) := by decide +kernel
theorem dX9_joined_152 : decode cX9_joined 152 = .ok (.ldiv, 1) := by decide +kernel
theorem dX9_joined_153 : decode cX9_joined 153 = .ok (.lreturn, 1) := by decide +kernel
theorem dX9_joined_154 : decode cX9_joined 154 = .ok (.lload_n 1, 1) := by decide +kernel
theorem dX9_joined_155 : decode cX9_joined 155 = .ok (.lload_n 3, 1) := by decide +kernel
theorem dX9_joined_156 : decode cX9_joined 156 = .ok (.lcmp, 1) := by decide +kernel
theorem dX9_joined_157 : decode cX9_joined 157 = .ok (.ifCond .ge 7, 3) := by decide +kernel
theorem dX9_joined_160 : decode cX9_joined 160 = .ok (.lconst 1, 1) := by decide +kernel
theorem dX9_joined_161 : decode cX9_joined 161 = .ok (.goto 4, 3) := by decide +kernel
theorem dX9_joined_164 : decode cX9_joined 164 = .ok (.lconst 0, 1) := by decide +kernel
theorem dX9_joined_165 : decode cX9_joined 165 = .ok (.lreturn, 1) := by decide +kernel
theorem dX9_joined_166 : decode cX9_joined 166 = .ok (.lload_n 1, 1) := by decide +kernel
theorem dX9_joined_167 : decode cX9_joined 167 = .ok (.lload_n 3, 1) := by decide +kernel
theorem dX9_joined_168 : decode cX9_joined 168 = .ok (.lcmp, 1) := by decide +kernel
theorem dX9_joined_169 : decode cX9_joined 169 = .ok (.ifCond .gt 7, 3) := by decide +kernel
theorem dX9_joined_172 : decode cX9_joined 172 = .ok (.lconst 1, 1) := by decide +kernel
theorem dX9_joined_173 : decode cX9_joined 173 = .ok (.goto 4, 3) := by decide +kernel
theorem dX9_joined_176 : decode cX9_joined 176 = .ok (.lconst 0, 1) := by decide +kernel
theorem dX9_joined_177 : decode cX9_joined 177 = .ok (.lreturn, 1) := by decide +kernel
theorem dX9_joined_178 : decode cX9_joined 178 = .ok (.lload_n 1, 1) := by decide +kernel
theorem dX9_joined_179 : decode cX9_joined 179 = .ok (.lload_n 3, 1) := by decide +kernel
theorem dX9_joined_180 : decode cX9_joined 180 = .ok (.lcmp, 1) := by decide +kernel
theorem dX9_joined_181 : decode cX9_joined 181 = .ok (.ifCond .ne 7, 3) := by decide +kernel
theorem dX9_joined_184 : decode cX9_joined 184 = .ok (.lconst 1, 1) := by decide +kernel
theorem dX9_joined_185 : decode cX9_joined 185 = .ok (.goto 4, 3) := by decide +kernel
theorem dX9_joined_188 : decode cX9_joined 188 = .ok (.lconst 0, 1) := by decide +kernel
theorem dX9_joined_189 : decode cX9_joined 189 = .ok (.lreturn, 1) := by decide +kernel
theorem dX9_joined_190 : decode cX9_joined 190 = .ok (.lload_n 1, 1) := by decide +kernel
theorem dX9_joined_191 : decode cX9_joined 191 = .ok (.lload_n 3, 1) := by decide +kernel
theorem dX9_joined_192 : decode cX9_joined 192 = .ok (.lcmp, 1) := by decide +kernel
theorem dX9_joined_193 : decode cX9_joined 193 = .ok (.ifCond .lt 7, 3) := by decide +kernel
theorem dX9_joined_196 : decode cX9_joined 196 = .ok (.lconst 1, 1) := by decide +kernel
theorem dX9_joined_197 : decode cX9_joined 197 = .ok (.goto 4, 3) := by decide +kernel
theorem dX9_joined_200 : decode cX9_joined 200 = .ok (.lconst 0, 1) := by decide +kernel
theorem dX9_joined_201 : decode cX9_joined 201 = .ok (.lreturn, 1) := by decide +kernel
theorem dX9_joined_202 : decode cX9_joined 202 = .ok (.lload_n 1, 1) := by decide +kernel
theorem dX9_joined_203 : decode cX9_joined 203 = .ok (.lload_n 3, 1) := by decide +kernel
theorem dX9_joined_204 : decode cX9_joined 204 = .ok (.lcmp, 1) := by decide +kernel
theorem dX9_joined_205 : decode cX9_joined 205 = .ok (.ifCond .le 7, 3) := by decide +kernel
theorem dX9_joined_208 : decode cX9_joined 208 = .ok (.lconst 1, 1) := by decide +kernel
theorem dX9_joined_209 : decode cX9_joined 209 = .ok (.goto 4, 3) := by decide +kernel
theorem dX9_joined_212 : decode cX9_joined 212 = .ok (.lconst 0, 1) := by decide +kernel
theorem dX9_joined_213 : decode cX9_joined 213 = .ok (.lreturn, 1) := by decide +kernel
theorem dX9_joined_214 : decode cX9_joined 214 = .ok (.lload_n 1, 1) := by decide +kernel
theorem dX9_joined_215 : decode cX9_joined 215 = .ok (.lload_n 3, 1) := by decide +kernel
theorem dX9_joined_216 : decode cX9_joined 216 = .ok (.land, 1) := by decide +kernel
theorem dX9_joined_217 : decode cX9_joined 217 = .ok (.lreturn, 1) := by decide +kernel
theorem dX9_joined_218 : decode cX9_joined 218 = .ok (.lload_n 1, 1) := by decide +kernel
theorem dX9_joined_219 : decode cX9_joined 219 = .ok (.lload_n 3, 1) := by decide +kernel
theorem dX9_joined_220 : decode cX9_joined 220 = .ok (.lor, 1) := by decide +kernel
theorem dX9_joined_221 : decode cX9_joined 221 = .ok (.lreturn, 1) := by decide +kernel
theorem dX10_init_0 : decode cX10_init 0 = .ok (.aload_n 0, 1) := by decide +kernel
theorem dX10_init_1 : decode cX10_init 1 = .ok (.invokespecial 3, 3) := by decide +kernel
theorem dX10_init_4 : decode cX10_init 4 = .ok (.aload_n 0, 1) := by decide +kernel
theorem dX10_init_5 : decode cX10_init 5 = .ok (.sipush 401, 3) := by decide +kernel
theorem dX10_init_8 : decode cX10_init 8 = .ok (.newarray .int, 2) := by decide +kernel
theorem dX10_init_10 : decode cX10_init 10 = .ok (.putfield 9, 3) := by decide +kernel
theorem dX10_init_13 : decode cX10_init 13 = .ok (.aload_n 0, 1) := by decide +kernel
theorem dX10_init_14 : decode cX10_init 14 = .ok (.sipush 401, 3) := by decide +kernel
theorem dX10_init_17 : decode cX10_init 17 = .ok (.newarray .int, 2) := by decide +kernel
theorem dX10_init_19 : decode cX10_init 19 = .ok (.putfield 15, 3) := by decide +kernel
theorem dX10_init_22 : decode cX10_init 22 = .ok (.aload_n 0, 1) := by decide +kernel
theorem dX10_init_23 : decode cX10_init 23 = .ok (.sipush 401, 3) := by decide +kernel
theorem dX10_init_26 : decode cX10_init 26 = .ok (.newarray .int, 2) := by decide +kernel
theorem dX10_init_28 : decode cX10_init 28 = .ok (.putfield 18, 3) := by decide +kernel
theorem dX10_init_31 : decode cX10_init 31 = .ok (.return_, 1) := by decide +kernel
theorem dX10_split_0 : decode cX10_split 0 = .ok (.aload_n 0, 1) := by decide +kernel
theorem dX10_split_1 : decode cX10_split 1 = .ok (.iconst 0, 1) := by decide +kernel
theorem dX10_split_2 : decode cX10_split 2 = .ok (.putfield 21, 3) := by decide +kernel
theorem dX10_split_5 : decode cX10_split 5 = .ok (.iconst 0, 1) := by decide +kernel
theorem dX10_split_6 : decode cX10_split 6 = .ok (.istore_n 3, 1) := by decide +kernel
theorem dX10_split_7 : decode cX10_split 7 = .ok (.iconst 0, 1) := by decide +kernel
theorem dX10_split_8 : decode cX10_split 8 = .ok (.istore 4, 2) := by decide +kernel
theorem dX10_split_10 : decode cX10_split 10 = .ok (.iload 4, 2) := by decide +kernel
theorem dX10_split_12 : decode cX10_split 12 = .ok (.iload_n 2, 1) := by decide +kernel
theorem dX10_split_13 : decode cX10_split 13 = .ok (.if_icmp .ge 40, 3) := by decide +kernel
theorem dX10_split_16 : decode cX10_split 16 = .ok (.iload 4, 2) := by decide +kernel
theorem dX10_split_18 : decode cX10_split 18 = .ok (.aload_n 1, 1) := by decide +kernel
theorem dX10_split_19 : decode cX10_split 19 = .ok (.arraylength, 1) := by decide +kernel
theorem dX10_split_20 : decode cX10_split 20 = .ok (.if_icmp .ge 33, 3) := by decide +kernel
theorem dX10_split_23 : decode cX10_split 23 = .ok (.iload 4, 2) := by decide +kernel
theorem dX10_split_25 : decode cX10_split 25 = .ok (.iload_n 3, 1) := by decide +kernel
theorem dX10_split_26 : decode cX10_split 26 = .ok (.if_icmp .lt 21, 3) := by decide +kernel
theorem dX10_split_29 : decode cX10_split 29 = .ok (.aload_n 1, 1) := by decide +kernel
theorem dX10_split_30 : decode cX10_split 30 = .ok (.iload 4, 2) := by decide +kernel
theorem dX10_split_32 : decode cX10_split 32 = .ok (.iaload, 1) := by decide +kernel
theorem dX10_split_33 : decode cX10_split 33 = .ok (.bipush 32, 2) := by decide +kernel
theorem dX10_split_35 : decode cX10_split 35 = .ok (.if_icmp .eq 12, 3) := by decide +kernel
theorem dX10_split_38 : decode cX10_split 38 = .ok (.aload_n 0, 1) := by decide +kernel
theorem dX10_split_39 : decode cX10_split 39 = .ok (.aload_n 1, 1) := by decide +kernel
theorem dX10_split_40 : decode cX10_split 40 = .ok (.iload_n 2, 1) := by decide +kernel
theorem dX10_split_41 : decode cX10_split 41 = .ok (.iload 4, 2) := by decide +kernel
theorem dX10_split_43 : decode cX10_split 43 = .ok (.invokevirtual 25, 3) := by decide +kernel
theorem dX10_split_46 : decode cX10_split 46 = .ok (.istore_n 3, 1) := by decide +kernel
theorem dX10_split_47 : decode cX10_split 47 = .ok (.iinc 4 1, 3) := by decide +kernel
theorem dX10_split_50 : decode cX10_split 50 = .ok (.goto (-40), 3) := by decide +kernel
theorem dX10_split_53 : decode cX10_split 53 = .ok (.aload_n 0, 1) := by decide +kernel
theorem dX10_split_54 : decode cX10_split 54 = .ok (.bipush 46, 2) := by decide +kernel
theorem dX10_split_56 : decode cX10_split 56 = .ok (.iconst 0, 1) := by decide +kernel
theorem dX10_split_57 : decode cX10_split 57 = .ok (.iload_n 2, 1) := by decide +kernel
theorem dX10_split_58 : decode cX10_split 58 = .ok (.invokevirtual 29, 3) := by decide +kernel
theorem dX10_split_61 : decode cX10_split 61 = .ok (.return_, 1) := by decide +kernel
theorem dX10_add_0 : decode cX10_add 0 = .ok (.aload_n 0, 1) := by decide +kernel
theorem dX10_add_1 : decode cX10_add 1 = .ok (.getfield 21, 3) := by decide +kernel
theorem dX10_add_4 : decode cX10_add 4 = .ok (.sipush 400, 3) := by decide +kernel
theorem dX10_add_7 : decode cX10_add 7 = .ok (.if_icmp .gt 43, 3) := by decide +kernel
theorem dX10_add_10 : decode cX10_add 10 = .ok (.aload_n 0, 1) := by decide +kernel
theorem dX10_add_11 : decode cX10_add 11 = .ok (.getfield 9, 3) := by decide +kernel
theorem dX10_add_14 : decode cX10_add 14 = .ok (.aload_n 0, 1) := by decide +kernel
theorem dX10_add_15 : decode cX10_add 15 = .ok (.getfield 21, 3) := by decide +kernel
theorem dX10_add_18 : decode cX10_add 18 = .ok (.iload_n 1, 1) := by decide +kernel
theorem dX10_add_19 : decode cX10_add 19 = .ok (.iastore, 1) := by decide +kernel
theorem dX10_add_20 : decode cX10_add 20 = .ok (.aload_n 0, 1) := by decide +kernel
theorem dX10_add_21 : decode cX10_add 21 = .ok (.getfield 15, 3) := by decide +kernel
theorem dX10_add_24 : decode cX10_add 24 = .ok (.aload_n 0, 1) := by decide +kernel
theorem dX10_add_25 : decode cX10_add 25 = .ok (.getfield 21, 3) := by decide +kernel
theorem dX10_add_28 : decode cX10_add 28 = .ok (.iload_n 2, 1) := by decide +kernel
theorem dX10_add_29 : decode cX10_add 29 = .ok (.iastore, 1) := by decide +kernel
theorem dX10_add_30 : decode cX10_add 30 = .ok (.aload_n 0, 1) := by decide +kernel
theorem dX10_add_31 : decode cX10_add 31 = .ok (.getfield 18, 3) := by decide +kernel
theorem dX10_add_34 : decode cX10_add 34 = .ok (.aload_n 0, 1) := by decide +kernel
theorem dX10_add_35 : decode cX10_add 35 = .ok (.getfield 21, 3) := by decide +kernel
theorem dX10_add_38 : decode cX10_add 38 = .ok (.iload_n 3, 1) := by decide +kernel
theorem dX10_add_39 : decode cX10_add 39 = .ok (.iastore, 1) := by decide +kernel
theorem dX10_add_40 : decode cX10_add 40 = .ok (.aload_n 0, 1) := by decide +kernel
theorem dX10_add_41 : decode cX10_add 41 = .ok (.dup, 1) := by decide +kernel
theorem dX10_add_42 : decode cX10_add 42 = .ok (.getfield 21, 3) := by decide +kernel
theorem dX10_add_45 : decode cX10_add 45 = .ok (.iconst 1, 1) := by decide +kernel
theorem dX10_add_46 : decode cX10_add 46 = .ok (.iadd, 1) := by decide +kernel
theorem dX10_add_47 : decode cX10_add 47 = .ok (.putfield 21, 3) := by decide +kernel
theorem dX10_add_50 : decode cX10_add 50 = .ok (.return_, 1) := by decide +kernel
theorem dX10_splitOne_0 : decode cX10_splitOne 0 = .ok (.aload_n 1, 1) := by decide +kernel
theorem dX10_splitOne_1 : decode cX10_splitOne 1 = .ok (.iload_n 3, 1) := by decide +kernel
theorem dX10_splitOne_2 : decode cX10_splitOne 2 = .ok (.iaload, 1) := by decide +kernel
theorem dX10_splitOne_3 : decode cX10_splitOne 3 = .ok (.istore 4, 2) := by decide +kernel
theorem dX10_splitOne_5 : decode cX10_splitOne 5 = .ok (.iload 4, 2) := by decide +kernel
theorem dX10_splitOne_7 : decode cX10_splitOne 7 = .ok (.bipush 48, 2) := by decide +kernel
theorem dX10_splitOne_9 : decode cX10_splitOne 9 = .ok (.if_icmp .lt 73, 3) := by decide +kernel
theorem dX10_splitOne_12 : decode cX10_splitOne 12 = .ok (.iload 4, 2) := by decide +kernel
theorem dX10_splitOne_14 : decode cX10_splitOne 14 = .ok (.bipush 57, 2) := by decide +kernel
theorem dX10_splitOne_16 : decode cX10_splitOne 16 = .ok (.if_icmp .gt 66, 3) := by decide +kernel
theorem dX10_splitOne_19 : decode cX10_splitOne 19 = .ok (.aload_n 1, 1) := by decide +kernel
theorem dX10_splitOne_20 : decode cX10_splitOne 20 = .ok (.iload_n 2, 1) := by decide +kernel
theorem dX10_splitOne_21 : decode cX10_splitOne 21 = .ok (.iload_n 3, 1) := by decide +kernel
theorem dX10_splitOne_22 : decode cX10_splitOne 22 = .ok (.bipush 48, 2) := by decide +kernel
theorem dX10_splitOne_24 : decode cX10_splitOne 24 = .ok (.bipush 57, 2) := by decide +kernel
theorem dX10_splitOne_26 : decode cX10_splitOne 26 = .ok (.invokestatic 33, 3) := by decide +kernel
theorem dX10_splitOne_29 : decode cX10_splitOne 29 = .ok (.istore 5, 2) := by decide +kernel
theorem dX10_splitOne_31 : decode cX10_splitOne 31 = .ok (.iload 5, 2) := by decide +kernel
theorem dX10_splitOne_33 : decode cX10_splitOne 33 = .ok (.iload_n 3, 1) := by decide +kernel
theorem dX10_splitOne_34 : decode cX10_splitOne 34 = .ok (.isub, 1) := by decide +kernel
theorem dX10_splitOne_35 : decode cX10_splitOne 35 = .ok (.iconst 5, 1) := by decide +kernel
theorem dX10_splitOne_36 : decode cX10_splitOne 36 = .ok (.if_icmp .le 7, 3) := by decide +kernel
theorem dX10_splitOne_39 : decode cX10_splitOne 39 = .ok (.iconst 1, 1) := by decide +kernel
theorem dX10_splitOne_40 : decode cX10_splitOne 40 = .ok (.goto 4, 3) := by decide +kernel
theorem dX10_splitOne_43 : decode cX10_splitOne 43 = .ok (.iconst 0, 1) := by decide +kernel
theorem dX10_splitOne_44 : decode cX10_splitOne 44 = .ok (.istore 6, 2) := by decide +kernel
theorem dX10_splitOne_46 : decode cX10_splitOne 46 = .ok (.aload_n 0, 1) := by decide +kernel
theorem dX10_splitOne_47 : decode cX10_splitOne 47 = .ok (.iload 6, 2) := by decide +kernel
theorem dX10_splitOne_49 : decode cX10_splitOne 49 = .ok (.ifCond .eq 8, 3) := by decide +kernel
theorem dX10_splitOne_52 : decode cX10_splitOne 52 = .ok (.bipush 32, 2) := by decide +kernel
theorem dX10_splitOne_54 : decode cX10_splitOne 54 = .ok (.goto 5, 3) := by decide +kernel
theorem dX10_splitOne_57 : decode cX10_splitOne 57 = .ok (.bipush 31, 2) := by decide +kernel
theorem dX10_splitOne_59 : decode cX10_splitOne 59 = .ok (.iload 6, 2) := by decide +kernel
theorem dX10_splitOne_61 : decode cX10_splitOne 61 = .ok (.ifCond .eq 7, 3) := by decide +kernel
theorem dX10_splitOne_64 : decode cX10_splitOne 64 = .ok (.iconst 0, 1) := by decide +kernel
theorem dX10_splitOne_65 : decode cX10_splitOne 65 = .ok (.goto 10, 3) := by decide +kernel
theorem dX10_splitOne_68 : decode cX10_splitOne 68 = .ok (.aload_n 1, 1) := by decide +kernel
theorem dX10_splitOne_69 : decode cX10_splitOne 69 = .ok (.iload_n 3, 1) := by decide +kernel
theorem dX10_splitOne_70 : decode cX10_splitOne 70 = .ok (.iload 5, 2) := by decide +kernel
theorem dX10_splitOne_72 : decode cX10_splitOne 72 = .ok (.invokestatic 37, 3) := by decide +kernel
theorem dX10_splitOne_75 : decode cX10_splitOne 75 = .ok (.iload_n 3, 1) := by decide +kernel
theorem dX10_splitOne_76 : decode cX10_splitOne 76 = .ok (.invokevirtual 29, 3) := by decide +kernel
theorem dX10_splitOne_79 : decode cX10_splitOne 79 = .ok (.iload 5, 2) := by decide +kernel
theorem dX10_splitOne_81 : decode cX10_splitOne 81 = .ok (.ireturn, 1) := by decide +kernel
theorem dX10_splitOne_82 : decode cX10_splitOne 82 = .ok (.iload 4, 2) := by decide +kernel
theorem dX10_splitOne_84 : decode cX10_splitOne 84 = .ok (.bipush 97, 2) := by decide +kernel
theorem dX10_splitOne_86 : decode cX10_splitOne 86 = .ok (.if_icmp .lt 83, 3) := by decide +kernel
theorem dX10_splitOne_89 : decode cX10_splitOne 89 = .ok (.iload 4, 2) := by decide +kernel
theorem dX10_splitOne_91 : decode cX10_splitOne 91 = .ok (.bipush 122, 2) := by decide +kernel
theorem dX10_splitOne_93 : decode cX10_splitOne 93 = .ok (.if_icmp .gt 76, 3) := by decide +kernel
theorem dX10_splitOne_96 : decode cX10_splitOne 96 = .ok (.aload_n 1, 1) := by decide +kernel
theorem dX10_splitOne_97 : decode cX10_splitOne 97 = .ok (.iload_n 2, 1) := by decide +kernel
theorem dX10_splitOne_98 : decode cX10_splitOne 98 = .ok (.iload_n 3, 1) := by decide +kernel
theorem dX10_splitOne_99 : decode cX10_splitOne 99 = .ok (.bipush 97, 2) := by decide +kernel
theorem dX10_splitOne_101 : decode cX10_splitOne 101 = .ok (.bipush 122, 2) := by decide +kernel
theorem dX10_splitOne_103 : decode cX10_splitOne 103 = .ok (.invokestatic 33, 3) := by decide +kernel
theorem dX10_splitOne_106 : decode cX10_splitOne 106 = .ok (.istore 5, 2) := by decide +kernel
theorem dX10_splitOne_108 : decode cX10_splitOne 108 = .ok (.iload 5, 2) := by decide +kernel
theorem dX10_splitOne_110 : decode cX10_splitOne 110 = .ok (.iload_n 3, 1) := by decide +kernel
theorem dX10_splitOne_111 : decode cX10_splitOne 111 = .ok (.isub, 1) := by decide +kernel
theorem dX10_splitOne_112 : decode cX10_splitOne 112 = .ok (.iconst 1, 1) := by decide +kernel
theorem dX10_splitOne_113 : decode cX10_splitOne 113 = .ok (.if_icmp .ne 14, 3) := by decide +kernel
theorem dX10_splitOne_116 : decode cX10_splitOne 116 = .ok (.iload 4, 2) := by decide +kernel
theorem dX10_splitOne_118 : decode cX10_splitOne 118 = .ok (.bipush 104, 2) := by decide +kernel
theorem dX10_splitOne_120 : decode cX10_splitOne 120 = .ok (.if_icmp .gt 7, 3) := by decide +kernel
theorem dX10_splitOne_123 : decode cX10_splitOne 123 = .ok (.iconst 1, 1) := by decide +kernel
theorem dX10_splitOne_124 : decode cX10_splitOne 124 = .ok (.goto 4, 3) := by decide +kernel
theorem dX10_splitOne_127 : decode cX10_splitOne 127 = .ok (.iconst 0, 1) := by decide +kernel
theorem dX10_splitOne_128 : decode cX10_splitOne 128 = .ok (.istore 6, 2) := by decide +kernel
theorem dX10_splitOne_130 : decode cX10_splitOne 130 = .ok (.aload_n 0, 1) := by decide +kernel
theorem dX10_splitOne_131 : decode cX10_splitOne 131 = .ok (.iload 6, 2) := by decide +kernel
theorem dX10_splitOne_133 : decode cX10_splitOne 133 = .ok (.ifCond .eq 8, 3) := by decide +kernel
theorem dX10_splitOne_136 : decode cX10_splitOne 136 = .ok (.bipush 30, 2) := by decide +kernel
theorem dX10_splitOne_138 : decode cX10_splitOne 138 = .ok (.goto 10, 3) := by decide +kernel
theorem dX10_splitOne_141 : decode cX10_splitOne 141 = .ok (.aload_n 1, 1) := by decide +kernel
theorem dX10_splitOne_142 : decode cX10_splitOne 142 = .ok (.iload_n 3, 1) := by decide +kernel
theorem dX10_splitOne_143 : decode cX10_splitOne 143 = .ok (.iload 5, 2) := by decide +kernel
theorem dX10_splitOne_145 : decode cX10_splitOne 145 = .ok (.invokestatic 40, 3) := by decide +kernel
theorem dX10_splitOne_148 : decode cX10_splitOne 148 = .ok (.iload 6, 2) := by decide +kernel
theorem dX10_splitOne_150 : decode cX10_splitOne 150 = .ok (.ifCond .eq 11, 3) := by decide +kernel
theorem dX10_splitOne_153 : decode cX10_splitOne 153 = .ok (.iload 4, 2) := by decide +kernel
theorem dX10_splitOne_155 : decode cX10_splitOne 155 = .ok (.bipush 97, 2) := by decide +kernel
theorem dX10_splitOne_157 : decode cX10_splitOne 157 = .ok (.isub, 1) := by decide +kernel
theorem dX10_splitOne_158 : decode cX10_splitOne 158 = .ok (.goto 4, 3) := by decide +kernel
theorem dX10_splitOne_161 : decode cX10_splitOne 161 = .ok (.iconst 0, 1) := by decide +kernel
theorem dX10_splitOne_162 : decode cX10_splitOne 162 = .ok (.iload_n 3, 1) := by decide +kernel
theorem dX10_splitOne_163 : decode cX10_splitOne 163 = .ok (.invokevirtual 29, 3) := by decide +kernel
theorem dX10_splitOne_166 : decode cX10_splitOne 166 = .ok (.iload 5, 2) := by decide +kernel
theorem dX10_splitOne_168 : decode cX10_splitOne 168 = .ok (.ireturn, 1) := by decide +kernel
theorem dX10_splitOne_169 : decode cX10_splitOne 169 = .ok (.iload_n 3, 1) := by decide +kernel
theorem dX10_splitOne_170 : decode cX10_splitOne 170 = .ok (.iconst 1, 1) := by decide +kernel
theorem dX10_splitOne_171 : decode cX10_splitOne 171 = .ok (.iadd, 1) := by decide +kernel
theorem dX10_splitOne_172 : decode cX10_splitOne 172 = .ok (.iload_n 2, 1) := by decide +kernel
theorem dX10_splitOne_173 : decode cX10_splitOne 173 = .ok (.if_icmp .ge 25, 3) := by decide +kernel
theorem dX10_splitOne_176 : decode cX10_splitOne 176 = .ok (.iload_n 3, 1) := by decide +kernel
theorem dX10_splitOne_177 : decode cX10_splitOne 177 = .ok (.iconst 1, 1) := by decide +kernel
theorem dX10_splitOne_178 : decode cX10_splitOne 178 = .ok (.iadd, 1) := by decide +kernel
theorem dX10_splitOne_179 : decode cX10_splitOne 179 = .ok (.aload_n 1, 1) := by decide +kernel
theorem dX10_splitOne_180 : decode cX10_splitOne 180 = .ok (.arraylength, 1) := by decide +kernel
theorem dX10_splitOne_181 : decode cX10_splitOne 181 = .ok (.if_icmp .ge 17, 3) := by decide +kernel
theorem dX10_splitOne_184 : decode cX10_splitOne 184 = .ok (.aload_n 1, 1) := by decide +kernel
theorem dX10_splitOne_185 : decode cX10_splitOne 185 = .ok (.iload_n 3, 1) := by decide +kernel
theorem dX10_splitOne_186 : decode cX10_splitOne 186 = .ok (.iconst 1, 1) := by decide +kernel
theorem dX10_splitOne_187 : decode cX10_splitOne 187 = .ok (.iadd, 1) := by decide +kernel
theorem dX10_splitOne_188 : decode cX10_splitOne 188 = .ok (.iaload, 1) := by decide +kernel
theorem dX10_splitOne_189 : decode cX10_splitOne 189 = .ok (.bipush 61, 2) := by decide +kernel
theorem dX10_splitOne_191 : decode cX10_splitOne 191 = .ok (.if_icmp .ne 7, 3) := by decide +kernel
theorem dX10_splitOne_194 : decode cX10_splitOne 194 = .ok (.iconst 1, 1) := by decide +kernel
theorem dX10_splitOne_195 : decode cX10_splitOne 195 = .ok (.goto 4, 3) := by decide +kernel
theorem dX10_splitOne_198 : decode cX10_splitOne 198 = .ok (.iconst 0, 1) := by decide +kernel
theorem dX10_splitOne_199 : decode cX10_splitOne 199 = .ok (.istore 5, 2) := by decide +kernel
theorem dX10_splitOne_201 : decode cX10_splitOne 201 = .ok (.iload 5, 2) := by decide +kernel
theorem dX10_splitOne_203 : decode cX10_splitOne 203 = .ok (.ifCond .eq 41, 3) := by decide +kernel
theorem dX10_splitOne_206 : decode cX10_splitOne 206 = .ok (.iload 4, 2) := by decide +kernel
theorem dX10_splitOne_208 : decode cX10_splitOne 208 = .ok (.bipush 60, 2) := by decide +kernel
theorem dX10_splitOne_210 : decode cX10_splitOne 210 = .ok (.if_icmp .eq 10, 3) := by decide +kernel
theorem dX10_splitOne_213 : decode cX10_splitOne 213 = .ok (.iload 4, 2) := by decide +kernel
theorem dX10_splitOne_215 : decode cX10_splitOne 215 = .ok (.bipush 62, 2) := by decide +kernel
theorem dX10_splitOne_217 : decode cX10_splitOne 217 = .ok (.if_icmp .ne 27, 3) := by decide +kernel
theorem dX10_splitOne_220 : decode cX10_splitOne 220 = .ok (.aload_n 0, 1) := by decide +kernel
theorem dX10_splitOne_221 : decode cX10_splitOne 221 = .ok (.iload 4, 2) := by decide +kernel
theorem dX10_splitOne_223 : decode cX10_splitOne 223 = .ok (.bipush 60, 2) := by decide +kernel
theorem dX10_splitOne_225 : decode cX10_splitOne 225 = .ok (.if_icmp .ne 8, 3) := by decide +kernel
theorem dX10_splitOne_228 : decode cX10_splitOne 228 = .ok (.bipush 41, 2) := by decide +kernel
theorem dX10_splitOne_230 : decode cX10_splitOne 230 = .ok (.goto 5, 3) := by decide +kernel
theorem dX10_splitOne_233 : decode cX10_splitOne 233 = .ok (.bipush 43, 2) := by decide +kernel
theorem dX10_splitOne_235 : decode cX10_splitOne 235 = .ok (.iconst 0, 1) := by decide +kernel
theorem dX10_splitOne_236 : decode cX10_splitOne 236 = .ok (.iload_n 3, 1) := by decide +kernel
theorem dX10_splitOne_237 : decode cX10_splitOne 237 = .ok (.invokevirtual 29, 3) := by decide +kernel
theorem dX10_splitOne_240 : decode cX10_splitOne 240 = .ok (.iload_n 3, 1) := by decide +kernel
theorem dX10_splitOne_241 : decode cX10_splitOne 241 = .ok (.iconst 2, 1) := by decide +kernel
theorem dX10_splitOne_242 : decode cX10_splitOne 242 = .ok (.iadd, 1) := by decide +kernel
theorem dX10_splitOne_243 : decode cX10_splitOne 243 = .ok (.ireturn, 1) := by decide +kernel
theorem dX10_splitOne_244 : decode cX10_splitOne 244 = .ok (.aload_n 0, 1) := by decide +kernel
theorem dX10_splitOne_245 : decode cX10_splitOne 245 = .ok (.iload 4, 2) := by decide +kernel
theorem dX10_splitOne_247 : decode cX10_splitOne 247 = .ok (.invokestatic 43, 3) := by decide +kernel
theorem dX10_splitOne_250 : decode cX10_splitOne 250 = .ok (.iconst 0, 1) := by decide +kernel
theorem dX10_splitOne_251 : decode cX10_splitOne 251 = .ok (.iload_n 3, 1) := by decide +kernel
theorem dX10_splitOne_252 : decode cX10_splitOne 252 = .ok (.invokevirtual 29, 3) := by decide +kernel
theorem dX10_splitOne_255 : decode cX10_splitOne 255 = .ok (.iload_n 3, 1) := by decide +kernel
theorem dX10_splitOne_256 : decode cX10_splitOne 256 = .ok (.iconst 1, 1) := by decide +kernel
theorem dX10_splitOne_257 : decode cX10_splitOne 257 = .ok (.iadd, 1) := by decide +kernel
theorem dX10_splitOne_258 : decode cX10_splitOne 258 = .ok (.ireturn, 1) := by decide +kernel
theorem dX10_behindRun_0 : decode cX10_behindRun 0 = .ok (.iload_n 2, 1) := by decide +kernel
theorem dX10_behindRun_1 : decode cX10_behindRun 1 = .ok (.istore 5, 2) := by decide +kernel
theorem dX10_behindRun_3 : decode cX10_behindRun 3 = .ok (.iload 5, 2) := by decide +kernel
theorem dX10_behindRun_5 : decode cX10_behindRun 5 = .ok (.iload_n 1, 1) := by decide +kernel
theorem dX10_behindRun_6 : decode cX10_behindRun 6 = .ok (.if_icmp .ge 36, 3) := by decide +kernel
theorem dX10_behindRun_9 : decode cX10_behindRun 9 = .ok (.iload 5, 2) := by decide +kernel
theorem dX10_behindRun_11 : decode cX10_behindRun 11 = .ok (.aload_n 0, 1) := by decide +kernel
theorem dX10_behindRun_12 : decode cX10_behindRun 12 = .ok (.arraylength, 1) := by decide +kernel
theorem dX10_behindRun_13 : decode cX10_behindRun 13 = .ok (.if_icmp .ge 29, 3) := by decide +kernel
theorem dX10_behindRun_16 : decode cX10_behindRun 16 = .ok (.aload_n 0, 1) := by decide +kernel
theorem dX10_behindRun_17 : decode cX10_behindRun 17 = .ok (.iload 5, 2) := by decide +kernel
theorem dX10_behindRun_19 : decode cX10_behindRun 19 = .ok (.iaload, 1) := by decide +kernel
theorem dX10_behindRun_20 : decode cX10_behindRun 20 = .ok (.iload_n 3, 1) := by decide +kernel
theorem dX10_behindRun_21 : decode cX10_behindRun 21 = .ok (.if_icmp .lt 12, 3) := by decide +kernel
theorem dX10_behindRun_24 : decode cX10_behindRun 24 = .ok (.aload_n 0, 1) := by decide +kernel
theorem dX10_behindRun_25 : decode cX10_behindRun 25 = .ok (.iload 5, 2) := by decide +kernel
theorem dX10_behindRun_27 : decode cX10_behindRun 27 = .ok (.iaload, 1) := by decide +kernel
theorem dX10_behindRun_28 : decode cX10_behindRun 28 = .ok (.iload 4, 2) := by decide +kernel
theorem dX10_behindRun_30 : decode cX10_behindRun 30 = .ok (.if_icmp .le 6, 3) := by decide +kernel
theorem dX10_behindRun_33 : decode cX10_behindRun 33 = .ok (.iload 5, 2) := by decide +kernel
theorem dX10_behindRun_35 : decode cX10_behindRun 35 = .ok (.ireturn, 1) := by decide +kernel
theorem dX10_behindRun_36 : decode cX10_behindRun 36 = .ok (.iinc 5 1, 3) := by decide +kernel
theorem dX10_behindRun_39 : decode cX10_behindRun 39 = .ok (.goto (-36), 3) := by decide +kernel
theorem dX10_behindRun_42 : decode cX10_behindRun 42 = .ok (.iload_n 1, 1) := by decide +kernel
theorem dX10_behindRun_43 : decode cX10_behindRun 43 = .ok (.ireturn, 1) := by decide +kernel
theorem dX10_numberIn_0 : decode cX10_numberIn 0 = .ok (.iconst 0, 1) := by decide +kernel
theorem dX10_numberIn_1 : decode cX10_numberIn 1 = .ok (.istore_n 3, 1) := by decide +kernel
theorem dX10_numberIn_2 : decode cX10_numberIn 2 = .ok (.iload_n 1, 1) := by decide +kernel
theorem dX10_numberIn_3 : decode cX10_numberIn 3 = .ok (.istore 4, 2) := by decide +kernel
theorem dX10_numberIn_5 : decode cX10_numberIn 5 = .ok (.iload 4, 2) := by decide +kernel
theorem dX10_numberIn_7 : decode cX10_numberIn 7 = .ok (.iload_n 2, 1) := by decide +kernel
theorem dX10_numberIn_8 : decode cX10_numberIn 8 = .ok (.if_icmp .ge 29, 3) := by decide +kernel
theorem dX10_numberIn_11 : decode cX10_numberIn 11 = .ok (.iload 4, 2) := by decide +kernel
theorem dX10_numberIn_13 : decode cX10_numberIn 13 = .ok (.aload_n 0, 1) := by decide +kernel
theorem dX10_numberIn_14 : decode cX10_numberIn 14 = .ok (.arraylength, 1) := by decide +kernel
theorem dX10_numberIn_15 : decode cX10_numberIn 15 = .ok (.if_icmp .ge 22, 3) := by decide +kernel
theorem dX10_numberIn_18 : decode cX10_numberIn 18 = .ok (.iload_n 3, 1) := by decide +kernel
theorem dX10_numberIn_19 : decode cX10_numberIn 19 = .ok (.bipush 10, 2) := by decide +kernel
theorem dX10_numberIn_21 : decode cX10_numberIn 21 = .ok (.imul, 1) := by decide +kernel
theorem dX10_numberIn_22 : decode cX10_numberIn 22 = .ok (.aload_n 0, 1) := by decide +kernel
theorem dX10_numberIn_23 : decode cX10_numberIn 23 = .ok (.iload 4, 2) := by decide +kernel
theorem dX10_numberIn_25 : decode cX10_numberIn 25 = .ok (.iaload, 1) := by decide +kernel
theorem dX10_numberIn_26 : decode cX10_numberIn 26 = .ok (.iadd, 1) := by decide +kernel
theorem dX10_numberIn_27 : decode cX10_numberIn 27 = .ok (.bipush 48, 2) := by decide +kernel
theorem dX10_numberIn_29 : decode cX10_numberIn 29 = .ok (.isub, 1) := by decide +kernel
theorem dX10_numberIn_30 : decode cX10_numberIn 30 = .ok (.istore_n 3, 1) := by decide +kernel
theorem dX10_numberIn_31 : decode cX10_numberIn 31 = .ok (.iinc 4 1, 3) := by decide +kernel
theorem dX10_numberIn_34 : decode cX10_numberIn 34 = .ok (.goto (-29), 3) := by decide +kernel
theorem dX10_numberIn_37 : decode cX10_numberIn 37 = .ok (.iload_n 3, 1) := by decide +kernel
theorem dX10_numberIn_38 : decode cX10_numberIn 38 = .ok (.ireturn, 1) := by decide +kernel
theorem dX10_wordIn_0 : decode cX10_wordIn 0 = .ok (.iconst 0, 1) := by decide +kernel
theorem dX10_wordIn_1 : decode cX10_wordIn 1 = .ok (.istore_n 3, 1) := by decide +kernel
theorem dX10_wordIn_2 : decode cX10_wordIn 2 = .ok (.iconst 0, 1) := by decide +kernel
theorem dX10_wordIn_3 : decode cX10_wordIn 3 = .ok (.istore 4, 2) := by decide +kernel
theorem dX10_wordIn_5 : decode cX10_wordIn 5 = .ok (.iconst 0, 1) := by decide +kernel
theorem dX10_wordIn_6 : decode cX10_wordIn 6 = .ok (.istore 5, 2) := by decide +kernel
theorem dX10_wordIn_8 : decode cX10_wordIn 8 = .ok (.iload 5, 2) := by decide +kernel
theorem dX10_wordIn_10 : decode cX10_wordIn 10 = .ok (.ldc 47, 2) := by decide +kernel
theorem dX10_wordIn_12 : decode cX10_wordIn 12 = .ok (.invokevirtual 49, 3) := by decide +kernel
theorem dX10_wordIn_15 : decode cX10_wordIn 15 = .ok (.if_icmp .ge 54, 3) := by decide +kernel
theorem dX10_wordIn_18 : decode cX10_wordIn 18 = .ok (.ldc 47, 2) := by decide +kernel
theorem dX10_wordIn_20 : decode cX10_wordIn 20 = .ok (.iload 5, 2) := by decide +kernel
theorem dX10_wordIn_22 : decode cX10_wordIn 22 = .ok (.invokevirtual 55, 3) := by decide +kernel
theorem dX10_wordIn_25 : decode cX10_wordIn 25 = .ok (.bipush 32, 2) := by decide +kernel
theorem dX10_wordIn_27 : decode cX10_wordIn 27 = .ok (.if_icmp .ne 36, 3) := by decide +kernel
theorem dX10_wordIn_30 : decode cX10_wordIn 30 = .ok (.iload 5, 2) := by decide +kernel
theorem dX10_wordIn_32 : decode cX10_wordIn 32 = .ok (.iload 4, 2) := by decide +kernel
theorem dX10_wordIn_34 : decode cX10_wordIn 34 = .ok (.isub, 1) := by decide +kernel
theorem dX10_wordIn_35 : decode cX10_wordIn 35 = .ok (.iload_n 2, 1) := by decide +kernel
theorem dX10_wordIn_36 : decode cX10_wordIn 36 = .ok (.iload_n 1, 1) := by decide +kernel
theorem dX10_wordIn_37 : decode cX10_wordIn 37 = .ok (.isub, 1) := by decide +kernel
theorem dX10_wordIn_38 : decode cX10_wordIn 38 = .ok (.if_icmp .ne 16, 3) := by decide +kernel
theorem dX10_wordIn_41 : decode cX10_wordIn 41 = .ok (.aload_n 0, 1) := by decide +kernel
theorem dX10_wordIn_42 : decode cX10_wordIn 42 = .ok (.iload_n 1, 1) := by decide +kernel
theorem dX10_wordIn_43 : decode cX10_wordIn 43 = .ok (.iload_n 2, 1) := by decide +kernel
theorem dX10_wordIn_44 : decode cX10_wordIn 44 = .ok (.iload 4, 2) := by decide +kernel
theorem dX10_wordIn_46 : decode cX10_wordIn 46 = .ok (.invokestatic 59, 3) := by decide +kernel
theorem dX10_wordIn_49 : decode cX10_wordIn 49 = .ok (.ifCond .eq 5, 3) := by decide +kernel
theorem dX10_wordIn_52 : decode cX10_wordIn 52 = .ok (.iload_n 3, 1) := by decide +kernel
theorem dX10_wordIn_53 : decode cX10_wordIn 53 = .ok (.ireturn, 1) := by decide +kernel
theorem dX10_wordIn_54 : decode cX10_wordIn 54 = .ok (.iinc 3 1, 3) := by decide +kernel
theorem dX10_wordIn_57 : decode cX10_wordIn 57 = .ok (.iload 5, 2) := by decide +kernel
theorem dX10_wordIn_59 : decode cX10_wordIn 59 = .ok (.iconst 1, 1) := by decide +kernel
theorem dX10_wordIn_60 : decode cX10_wordIn 60 = .ok (.iadd, 1) := by decide +kernel
theorem dX10_wordIn_61 : decode cX10_wordIn 61 = .ok (.istore 4, 2) := by decide +kernel
theorem dX10_wordIn_63 : decode cX10_wordIn 63 = .ok (.iinc 5 1, 3) := by decide +kernel
theorem dX10_wordIn_66 : decode cX10_wordIn 66 = .ok (.goto (-58), 3) := by decide +kernel
theorem dX10_wordIn_69 : decode cX10_wordIn 69 = .ok (.bipush 45, 2) := by decide +kernel
theorem dX10_wordIn_71 : decode cX10_wordIn 71 = .ok (.ireturn, 1) := by decide +kernel
theorem dX10_isSame_0 : decode cX10_isSame 0 = .ok (.iload_n 1, 1) := by decide +kernel
theorem dX10_isSame_1 : decode cX10_isSame 1 = .ok (.istore 4, 2) := by decide +kernel
theorem dX10_isSame_3 : decode cX10_isSame 3 = .ok (.iload 4, 2) := by decide +kernel
theorem dX10_isSame_5 : decode cX10_isSame 5 = .ok (.iload_n 2, 1) := by decide +kernel
theorem dX10_isSame_6 : decode cX10_isSame 6 = .ok (.if_icmp .ge 55, 3) := by decide +kernel
theorem dX10_isSame_9 : decode cX10_isSame 9 = .ok (.iload 4, 2) := by decide +kernel
theorem dX10_isSame_11 : decode cX10_isSame 11 = .ok (.aload_n 0, 1) := by decide +kernel
theorem dX10_isSame_12 : decode cX10_isSame 12 = .ok (.arraylength, 1) := by decide +kernel
theorem dX10_isSame_13 : decode cX10_isSame 13 = .ok (.if_icmp .ge 48, 3) := by decide +kernel
theorem dX10_isSame_16 : decode cX10_isSame 16 = .ok (.iload_n 3, 1) := by decide +kernel
theorem dX10_isSame_17 : decode cX10_isSame 17 = .ok (.iload 4, 2) := by decide +kernel
theorem dX10_isSame_19 : decode cX10_isSame 19 = .ok (.iadd, 1) := by decide +kernel
theorem dX10_isSame_20 : decode cX10_isSame 20 = .ok (.iload_n 1, 1) := by decide +kernel
theorem dX10_isSame_21 : decode cX10_isSame 21 = .ok (.isub, 1) := by decide +kernel
theorem dX10_isSame_22 : decode cX10_isSame 22 = .ok (.istore 5, 2) := by decide +kernel
theorem dX10_isSame_24 : decode cX10_isSame 24 = .ok (.iload 5, 2) := by decide +kernel
theorem dX10_isSame_26 : decode cX10_isSame 26 = .ok (.ifCond .lt 27, 3) := by decide +kernel
theorem dX10_isSame_29 : decode cX10_isSame 29 = .ok (.iload 5, 2) := by decide +kernel
theorem dX10_isSame_31 : decode cX10_isSame 31 = .ok (.ldc 47, 2) := by decide +kernel
theorem dX10_isSame_33 : decode cX10_isSame 33 = .ok (.invokevirtual 49, 3) := by decide +kernel
theorem dX10_isSame_36 : decode cX10_isSame 36 = .ok (.if_icmp .ge 17, 3) := by decide +kernel
theorem dX10_isSame_39 : decode cX10_isSame 39 = .ok (.ldc 47, 2) := by decide +kernel
theorem dX10_isSame_41 : decode cX10_isSame 41 = .ok (.iload 5, 2) := by decide +kernel
theorem dX10_isSame_43 : decode cX10_isSame 43 = .ok (.invokevirtual 55, 3) := by decide +kernel
theorem dX10_isSame_46 : decode cX10_isSame 46 = .ok (.aload_n 0, 1) := by decide +kernel
theorem dX10_isSame_47 : decode cX10_isSame 47 = .ok (.iload 4, 2) := by decide +kernel
theorem dX10_isSame_49 : decode cX10_isSame 49 = .ok (.iaload, 1) := by decide +kernel
theorem dX10_isSame_50 : decode cX10_isSame 50 = .ok (.if_icmp .eq 5, 3) := by decide +kernel
theorem dX10_isSame_53 : decode cX10_isSame 53 = .ok (.iconst 0, 1) := by decide +kernel
theorem dX10_isSame_54 : decode cX10_isSame 54 = .ok (.ireturn, 1) := by decide +kernel
theorem dX10_isSame_55 : decode cX10_isSame 55 = .ok (.iinc 4 1, 3) := by decide +kernel
theorem dX10_isSame_58 : decode cX10_isSame 58 = .ok (.goto (-55), 3) := by decide +kernel
theorem dX10_isSame_61 : decode cX10_isSame 61 = .ok (.iconst 1, 1) := by decide +kernel
theorem dX10_isSame_62 : decode cX10_isSame 62 = .ok (.ireturn, 1) := by decide +kernel
theorem dX10_signKind_0 : decode cX10_signKind 0 = .ok (.iload_n 0, 1) := by decide +kernel
set_option maxRecDepth 20000 in
theorem dX10_signKind_1 : decode cX10_signKind 1 = .ok (.lookupswitch 121 #[(42, 106), (43, 100), (45, 103), (47, 109), (59, 91), (60, 112), (61, 115), (62, 118), (91, 94), (93, 97)], 91) := by decide +kernel
theorem dX10_signKind_92 : decode cX10_signKind 92 = .ok (.bipush 33, 2) := by decide +kernel
theorem dX10_signKind_94 : decode cX10_signKind 94 = .ok (.ireturn, 1) := by decide +kernel
theorem dX10_signKind_95 : decode cX10_signKind 95 = .ok (.bipush 34, 2) := by decide +kernel
theorem dX10_signKind_97 : decode cX10_signKind 97 = .ok (.ireturn, 1) := by decide +kernel
theorem dX10_signKind_98 : decode cX10_signKind 98 = .ok (.bipush 35, 2) := by decide +kernel
theorem dX10_signKind_100 : decode cX10_signKind 100 = .ok (.ireturn, 1) := by decide +kernel
theorem dX10_signKind_101 : decode cX10_signKind 101 = .ok (.bipush 36, 2) := by decide +kernel
theorem dX10_signKind_103 : decode cX10_signKind 103 = .ok (.ireturn, 1) := by decide +kernel
theorem dX10_signKind_104 : decode cX10_signKind 104 = .ok (.bipush 37, 2) := by decide +kernel
theorem dX10_signKind_106 : decode cX10_signKind 106 = .ok (.ireturn, 1) := by decide +kernel
theorem dX10_signKind_107 : decode cX10_signKind 107 = .ok (.bipush 38, 2) := by decide +kernel
theorem dX10_signKind_109 : decode cX10_signKind 109 = .ok (.ireturn, 1) := by decide +kernel
theorem dX10_signKind_110 : decode cX10_signKind 110 = .ok (.bipush 39, 2) := by decide +kernel
theorem dX10_signKind_112 : decode cX10_signKind 112 = .ok (.ireturn, 1) := by decide +kernel
theorem dX10_signKind_113 : decode cX10_signKind 113 = .ok (.bipush 40, 2) := by decide +kernel
theorem dX10_signKind_115 : decode cX10_signKind 115 = .ok (.ireturn, 1) := by decide +kernel
theorem dX10_signKind_116 : decode cX10_signKind 116 = .ok (.bipush 42, 2) := by decide +kernel
theorem dX10_signKind_118 : decode cX10_signKind 118 = .ok (.ireturn, 1) := by decide +kernel
theorem dX10_signKind_119 : decode cX10_signKind 119 = .ok (.bipush 44, 2) := by decide +kernel
theorem dX10_signKind_121 : decode cX10_signKind 121 = .ok (.ireturn, 1) := by decide +kernel
theorem dX10_signKind_122 : decode cX10_signKind 122 = .ok (.bipush 45, 2) := by decide +kernel
theorem dX10_signKind_124 : decode cX10_signKind 124 = .ok (.ireturn, 1) := by decide +kernel
theorem dJ6_bitCount_0f7a4_0 : decode cJ6_bitCount_0f7a4 0 = .ok (.iload_n 0, 1) := by decide +kernel
theorem dJ6_bitCount_0f7a4_1 : decode cJ6_bitCount_0f7a4 1 = .ok (.iload_n 0, 1) := by decide +kernel
theorem dJ6_bitCount_0f7a4_2 : decode cJ6_bitCount_0f7a4 2 = .ok (.iconst 1, 1) := by decide +kernel
theorem dJ6_bitCount_0f7a4_3 : decode cJ6_bitCount_0f7a4 3 = .ok (.iushr, 1) := by decide +kernel
theorem dJ6_bitCount_0f7a4_4 : decode cJ6_bitCount_0f7a4 4 = .ok (.ldc_w 265, 3) := by decide +kernel
theorem dJ6_bitCount_0f7a4_7 : decode cJ6_bitCount_0f7a4 7 = .ok (.iand, 1) := by decide +kernel
theorem dJ6_bitCount_0f7a4_8 : decode cJ6_bitCount_0f7a4 8 = .ok (.isub, 1) := by decide +kernel
theorem dJ6_bitCount_0f7a4_9 : decode cJ6_bitCount_0f7a4 9 = .ok (.istore_n 0, 1) := by decide +kernel
theorem dJ6_bitCount_0f7a4_10 : decode cJ6_bitCount_0f7a4 10 = .ok (.iload_n 0, 1) := by decide +kernel
theorem dJ6_bitCount_0f7a4_11 : decode cJ6_bitCount_0f7a4 11 = .ok (.ldc_w 266, 3) := by decide +kernel
theorem dJ6_bitCount_0f7a4_14 : decode cJ6_bitCount_0f7a4 14 = .ok (.iand, 1) := by decide +kernel
theorem dJ6_bitCount_0f7a4_15 : decode cJ6_bitCount_0f7a4 15 = .ok (.iload_n 0, 1) := by decide +kernel
theorem dJ6_bitCount_0f7a4_16 : decode cJ6_bitCount_0f7a4 16 = .ok (.iconst 2, 1) := by decide +kernel
theorem dJ6_bitCount_0f7a4_17 : decode cJ6_bitCount_0f7a4 17 = .ok (.iushr, 1) := by decide +kernel
theorem dJ6_bitCount_0f7a4_18 : decode cJ6_bitCount_0f7a4 18 = .ok (.ldc_w 266, 3) := by decide +kernel
theorem dJ6_bitCount_0f7a4_21 : decode cJ6_bitCount_0f7a4 21 = .ok (.iand, 1) := by decide +kernel
theorem dJ6_bitCount_0f7a4_22 : decode cJ6_bitCount_0f7a4 22 = .ok (.iadd, 1) := by decide +kernel
theorem dJ6_bitCount_0f7a4_23 : decode cJ6_bitCount_0f7a4 23 = .ok (.istore_n 0, 1) := by decide +kernel
theorem dJ6_bitCount_0f7a4_24 : decode cJ6_bitCount_0f7a4 24 = .ok (.iload_n 0, 1) := by decide +kernel
theorem dJ6_bitCount_0f7a4_25 : decode cJ6_bitCount_0f7a4 25 = .ok (.iload_n 0, 1) := by decide +kernel
theorem dJ6_bitCount_0f7a4_26 : decode cJ6_bitCount_0f7a4 26 = .ok (.iconst 4, 1) := by decide +kernel
theorem dJ6_bitCount_0f7a4_27 : decode cJ6_bitCount_0f7a4 27 = .ok (.iushr, 1) := by decide +kernel
theorem dJ6_bitCount_0f7a4_28 : decode cJ6_bitCount_0f7a4 28 = .ok (.iadd, 1) := by decide +kernel
theorem dJ6_bitCount_0f7a4_29 : decode cJ6_bitCount_0f7a4 29 = .ok (.ldc_w 267, 3) := by decide +kernel
theorem dJ6_bitCount_0f7a4_32 : decode cJ6_bitCount_0f7a4 32 = .ok (.iand, 1) := by decide +kernel
theorem dJ6_bitCount_0f7a4_33 : decode cJ6_bitCount_0f7a4 33 = .ok (.istore_n 0, 1) := by decide +kernel
theorem dJ6_bitCount_0f7a4_34 : decode cJ6_bitCount_0f7a4 34 = .ok (.iload_n 0, 1) := by decide +kernel
theorem dJ6_bitCount_0f7a4_35 : decode cJ6_bitCount_0f7a4 35 = .ok (.iload_n 0, 1) := by decide +kernel
theorem dJ6_bitCount_0f7a4_36 : decode cJ6_bitCount_0f7a4 36 = .ok (.bipush 8, 2) := by decide +kernel
theorem dJ6_bitCount_0f7a4_38 : decode cJ6_bitCount_0f7a4 38 = .ok (.iushr, 1) := by decide +kernel
theorem dJ6_bitCount_0f7a4_39 : decode cJ6_bitCount_0f7a4 39 = .ok (.iadd, 1) := by decide +kernel
theorem dJ6_bitCount_0f7a4_40 : decode cJ6_bitCount_0f7a4 40 = .ok (.istore_n 0, 1) := by decide +kernel
theorem dJ6_bitCount_0f7a4_41 : decode cJ6_bitCount_0f7a4 41 = .ok (.iload_n 0, 1) := by decide +kernel
theorem dJ6_bitCount_0f7a4_42 : decode cJ6_bitCount_0f7a4 42 = .ok (.iload_n 0, 1) := by decide +kernel
theorem dJ6_bitCount_0f7a4_43 : decode cJ6_bitCount_0f7a4 43 = .ok (.bipush 16, 2) := by decide +kernel
theorem dJ6_bitCount_0f7a4_45 : decode cJ6_bitCount_0f7a4 45 = .ok (.iushr, 1) := by decide +kernel
theorem dJ6_bitCount_0f7a4_46 : decode cJ6_bitCount_0f7a4 46 = .ok (.iadd, 1) := by decide +kernel
theorem dJ6_bitCount_0f7a4_47 : decode cJ6_bitCount_0f7a4 47 = .ok (.istore_n 0, 1) := by decide +kernel
theorem dJ6_bitCount_0f7a4_48 : decode cJ6_bitCount_0f7a4 48 = .ok (.iload_n 0, 1) := by decide +kernel
theorem dJ6_bitCount_0f7a4_49 : decode cJ6_bitCount_0f7a4 49 = .ok (.bipush 63, 2) := by decide +kernel
theorem dJ6_bitCount_0f7a4_51 : decode cJ6_bitCount_0f7a4 51 = .ok (.iand, 1) := by decide +kernel
theorem dJ6_bitCount_0f7a4_52 : decode cJ6_bitCount_0f7a4 52 = .ok (.ireturn, 1) := by decide +kernel
