theorem dX11_init_0 : decode cX11_init 0 = .ok (.aload_n 0, 1) := by decide +kernel
theorem dX11_init_1 : decode cX11_init 1 = .ok (.invokespecial 1, 3) := by decide +kernel
theorem dX11_init_4 : decode cX11_init 4 = .ok (.aload_n 0, 1) := by decide +kernel
theorem dX11_init_5 : decode cX11_init 5 = .ok (.sipush 400, 3) := by decide +kernel
theorem dX11_init_8 : decode cX11_init 8 = .ok (.newarray .int, 2) := by decide +kernel
theorem dX11_init_10 : decode cX11_init 10 = .ok (.putfield 9, 3) := by decide +kernel
theorem dX11_init_13 : decode cX11_init 13 = .ok (.aload_n 0, 1) := by decide +kernel
theorem dX11_init_14 : decode cX11_init 14 = .ok (.new 13, 3) := by decide +kernel
theorem dX11_init_17 : decode cX11_init 17 = .ok (.dup, 1) := by decide +kernel
theorem dX11_init_18 : decode cX11_init 18 = .ok (.invokespecial 15, 3) := by decide +kernel
theorem dX11_init_21 : decode cX11_init 21 = .ok (.putfield 16, 3) := by decide +kernel
theorem dX11_init_24 : decode cX11_init 24 = .ok (.aload_n 0, 1) := by decide +kernel
theorem dX11_init_25 : decode cX11_init 25 = .ok (.new 20, 3) := by decide +kernel
theorem dX11_init_28 : decode cX11_init 28 = .ok (.dup, 1) := by decide +kernel
theorem dX11_init_29 : decode cX11_init 29 = .ok (.invokespecial 22, 3) := by decide +kernel
theorem dX11_init_32 : decode cX11_init 32 = .ok (.putfield 23, 3) := by decide +kernel
theorem dX11_init_35 : decode cX11_init 35 = .ok (.aload_n 0, 1) := by decide +kernel
theorem dX11_init_36 : decode cX11_init 36 = .ok (.new 20, 3) := by decide +kernel
theorem dX11_init_39 : decode cX11_init 39 = .ok (.dup, 1) := by decide +kernel
theorem dX11_init_40 : decode cX11_init 40 = .ok (.invokespecial 22, 3) := by decide +kernel
theorem dX11_init_43 : decode cX11_init 43 = .ok (.putfield 27, 3) := by decide +kernel
theorem dX11_init_46 : decode cX11_init 46 = .ok (.aload_n 0, 1) := by decide +kernel
theorem dX11_init_47 : decode cX11_init 47 = .ok (.new 30, 3) := by decide +kernel
theorem dX11_init_50 : decode cX11_init 50 = .ok (.dup, 1) := by decide +kernel
theorem dX11_init_51 : decode cX11_init 51 = .ok (.invokespecial 32, 3) := by decide +kernel
theorem dX11_init_54 : decode cX11_init 54 = .ok (.putfield 33, 3) := by decide +kernel
theorem dX11_init_57 : decode cX11_init 57 = .ok (.aload_n 0, 1) := by decide +kernel
theorem dX11_init_58 : decode cX11_init 58 = .ok (.bipush 6, 2) := by decide +kernel
theorem dX11_init_60 : decode cX11_init 60 = .ok (.anewarray 37, 3) := by decide +kernel
theorem dX11_init_63 : decode cX11_init 63 = .ok (.putfield 39, 3) := by decide +kernel
theorem dX11_init_66 : decode cX11_init 66 = .ok (.iconst 0, 1) := by decide +kernel
theorem dX11_init_67 : decode cX11_init 67 = .ok (.istore_n 1, 1) := by decide +kernel
theorem dX11_init_68 : decode cX11_init 68 = .ok (.iload_n 1, 1) := by decide +kernel
theorem dX11_init_69 : decode cX11_init 69 = .ok (.bipush 6, 2) := by decide +kernel
theorem dX11_init_71 : decode cX11_init 71 = .ok (.if_icmp .ge 22, 3) := by decide +kernel
theorem dX11_init_74 : decode cX11_init 74 = .ok (.aload_n 0, 1) := by decide +kernel
theorem dX11_init_75 : decode cX11_init 75 = .ok (.getfield 39, 3) := by decide +kernel
theorem dX11_init_78 : decode cX11_init 78 = .ok (.iload_n 1, 1) := by decide +kernel
theorem dX11_init_79 : decode cX11_init 79 = .ok (.new 37, 3) := by decide +kernel
theorem dX11_init_82 : decode cX11_init 82 = .ok (.dup, 1) := by decide +kernel
theorem dX11_init_83 : decode cX11_init 83 = .ok (.invokespecial 43, 3) := by decide +kernel
theorem dX11_init_86 : decode cX11_init 86 = .ok (.aastore, 1) := by decide +kernel
theorem dX11_init_87 : decode cX11_init 87 = .ok (.iinc 1 1, 3) := by decide +kernel
theorem dX11_init_90 : decode cX11_init 90 = .ok (.goto (-22), 3) := by decide +kernel
theorem dX11_init_93 : decode cX11_init 93 = .ok (.aload_n 0, 1) := by decide +kernel
theorem dX11_init_94 : decode cX11_init 94 = .ok (.iconst 4, 1) := by decide +kernel
theorem dX11_init_95 : decode cX11_init 95 = .ok (.anewarray 20, 3) := by decide +kernel
theorem dX11_init_98 : decode cX11_init 98 = .ok (.putfield 44, 3) := by decide +kernel
theorem dX11_init_101 : decode cX11_init 101 = .ok (.aload_n 0, 1) := by decide +kernel
theorem dX11_init_102 : decode cX11_init 102 = .ok (.iconst 4, 1) := by decide +kernel
theorem dX11_init_103 : decode cX11_init 103 = .ok (.anewarray 30, 3) := by decide +kernel
theorem dX11_init_106 : decode cX11_init 106 = .ok (.putfield 48, 3) := by decide +kernel
theorem dX11_init_109 : decode cX11_init 109 = .ok (.iconst 0, 1) := by decide +kernel
theorem dX11_init_110 : decode cX11_init 110 = .ok (.istore_n 1, 1) := by decide +kernel
theorem dX11_init_111 : decode cX11_init 111 = .ok (.iload_n 1, 1) := by decide +kernel
theorem dX11_init_112 : decode cX11_init 112 = .ok (.iconst 4, 1) := by decide +kernel
theorem dX11_init_113 : decode cX11_init 113 = .ok (.if_icmp .ge 35, 3) := by decide +kernel
theorem dX11_init_116 : decode cX11_init 116 = .ok (.aload_n 0, 1) := by decide +kernel
theorem dX11_init_117 : decode cX11_init 117 = .ok (.getfield 44, 3) := by decide +kernel
theorem dX11_init_120 : decode cX11_init 120 = .ok (.iload_n 1, 1) := by decide +kernel
theorem dX11_init_121 : decode cX11_init 121 = .ok (.new 20, 3) := by decide +kernel
theorem dX11_init_124 : decode cX11_init 124 = .ok (.dup, 1) := by decide +kernel
theorem dX11_init_125 : decode cX11_init 125 = .ok (.invokespecial 22, 3) := by decide +kernel
theorem dX11_init_128 : decode cX11_init 128 = .ok (.aastore, 1) := by decide +kernel
theorem dX11_init_129 : decode cX11_init 129 = .ok (.aload_n 0, 1) := by decide +kernel
theorem dX11_init_130 : decode cX11_init 130 = .ok (.getfield 48, 3) := by decide +kernel
theorem dX11_init_133 : decode cX11_init 133 = .ok (.iload_n 1, 1) := by decide +kernel
theorem dX11_init_134 : decode cX11_init 134 = .ok (.new 30, 3) := by decide +kernel
theorem dX11_init_137 : decode cX11_init 137 = .ok (.dup, 1) := by decide +kernel
theorem dX11_init_138 : decode cX11_init 138 = .ok (.invokespecial 32, 3) := by decide +kernel
theorem dX11_init_141 : decode cX11_init 141 = .ok (.aastore, 1) := by decide +kernel
theorem dX11_init_142 : decode cX11_init 142 = .ok (.iinc 1 1, 3) := by decide +kernel
theorem dX11_init_145 : decode cX11_init 145 = .ok (.goto (-34), 3) := by decide +kernel
theorem dX11_init_148 : decode cX11_init 148 = .ok (.aload_n 0, 1) := by decide +kernel
theorem dX11_init_149 : decode cX11_init 149 = .ok (.iconst 4, 1) := by decide +kernel
theorem dX11_init_150 : decode cX11_init 150 = .ok (.newarray .boolean, 2) := by decide +kernel
theorem dX11_init_152 : decode cX11_init 152 = .ok (.putfield 52, 3) := by decide +kernel
theorem dX11_init_155 : decode cX11_init 155 = .ok (.aload_n 0, 1) := by decide +kernel
theorem dX11_init_156 : decode cX11_init 156 = .ok (.new 56, 3) := by decide +kernel
theorem dX11_init_159 : decode cX11_init 159 = .ok (.dup, 1) := by decide +kernel
theorem dX11_init_160 : decode cX11_init 160 = .ok (.invokespecial 58, 3) := by decide +kernel
theorem dX11_init_163 : decode cX11_init 163 = .ok (.putfield 59, 3) := by decide +kernel
theorem dX11_init_166 : decode cX11_init 166 = .ok (.aload_n 0, 1) := by decide +kernel
theorem dX11_init_167 : decode cX11_init 167 = .ok (.new 63, 3) := by decide +kernel
theorem dX11_init_170 : decode cX11_init 170 = .ok (.dup, 1) := by decide +kernel
theorem dX11_init_171 : decode cX11_init 171 = .ok (.aload_n 0, 1) := by decide +kernel
theorem dX11_init_172 : decode cX11_init 172 = .ok (.getfield 23, 3) := by decide +kernel
theorem dX11_init_175 : decode cX11_init 175 = .ok (.aload_n 0, 1) := by decide +kernel
theorem dX11_init_176 : decode cX11_init 176 = .ok (.getfield 59, 3) := by decide +kernel
theorem dX11_init_179 : decode cX11_init 179 = .ok (.invokespecial 65, 3) := by decide +kernel
theorem dX11_init_182 : decode cX11_init 182 = .ok (.putfield 68, 3) := by decide +kernel
theorem dX11_init_185 : decode cX11_init 185 = .ok (.aload_n 0, 1) := by decide +kernel
theorem dX11_init_186 : decode cX11_init 186 = .ok (.new 72, 3) := by decide +kernel
theorem dX11_init_189 : decode cX11_init 189 = .ok (.dup, 1) := by decide +kernel
theorem dX11_init_190 : decode cX11_init 190 = .ok (.aload_n 0, 1) := by decide +kernel
theorem dX11_init_191 : decode cX11_init 191 = .ok (.getfield 23, 3) := by decide +kernel
theorem dX11_init_194 : decode cX11_init 194 = .ok (.aload_n 0, 1) := by decide +kernel
theorem dX11_init_195 : decode cX11_init 195 = .ok (.getfield 59, 3) := by decide +kernel
theorem dX11_init_198 : decode cX11_init 198 = .ok (.invokespecial 74, 3) := by decide +kernel
theorem dX11_init_201 : decode cX11_init 201 = .ok (.putfield 75, 3) := by decide +kernel
theorem dX11_init_204 : decode cX11_init 204 = .ok (.aload_n 0, 1) := by decide +kernel
theorem dX11_init_205 : decode cX11_init 205 = .ok (.new 79, 3) := by decide +kernel
theorem dX11_init_208 : decode cX11_init 208 = .ok (.dup, 1) := by decide +kernel
theorem dX11_init_209 : decode cX11_init 209 = .ok (.invokespecial 81, 3) := by decide +kernel
theorem dX11_init_212 : decode cX11_init 212 = .ok (.putfield 82, 3) := by decide +kernel
theorem dX11_init_215 : decode cX11_init 215 = .ok (.aload_n 0, 1) := by decide +kernel
theorem dX11_init_216 : decode cX11_init 216 = .ok (.bipush 8, 2) := by decide +kernel
theorem dX11_init_218 : decode cX11_init 218 = .ok (.newarray .int, 2) := by decide +kernel
theorem dX11_init_220 : decode cX11_init 220 = .ok (.putfield 86, 3) := by decide +kernel
theorem dX11_init_223 : decode cX11_init 223 = .ok (.return_, 1) := by decide +kernel
theorem dX11_feed_0 : decode cX11_feed 0 = .ok (.aload_n 0, 1) := by decide +kernel
theorem dX11_feed_1 : decode cX11_feed 1 = .ok (.getfield 89, 3) := by decide +kernel
theorem dX11_feed_4 : decode cX11_feed 4 = .ok (.bipush 20, 2) := by decide +kernel
theorem dX11_feed_6 : decode cX11_feed 6 = .ok (.iadd, 1) := by decide +kernel
theorem dX11_feed_7 : decode cX11_feed 7 = .ok (.sipush 400, 3) := by decide +kernel
theorem dX11_feed_10 : decode cX11_feed 10 = .ok (.if_icmp .le 5, 3) := by decide +kernel
theorem dX11_feed_13 : decode cX11_feed 13 = .ok (.iconst (-1), 1) := by decide +kernel
theorem dX11_feed_14 : decode cX11_feed 14 = .ok (.ireturn, 1) := by decide +kernel
theorem dX11_feed_15 : decode cX11_feed 15 = .ok (.aload_n 0, 1) := by decide +kernel
theorem dX11_feed_16 : decode cX11_feed 16 = .ok (.iload_n 1, 1) := by decide +kernel
theorem dX11_feed_17 : decode cX11_feed 17 = .ok (.invokevirtual 93, 3) := by decide +kernel
theorem dX11_feed_20 : decode cX11_feed 20 = .ok (.aload_n 0, 1) := by decide +kernel
theorem dX11_feed_21 : decode cX11_feed 21 = .ok (.iload_n 2, 1) := by decide +kernel
theorem dX11_feed_22 : decode cX11_feed 22 = .ok (.invokevirtual 93, 3) := by decide +kernel
theorem dX11_feed_25 : decode cX11_feed 25 = .ok (.aload_n 0, 1) := by decide +kernel
theorem dX11_feed_26 : decode cX11_feed 26 = .ok (.iload_n 3, 1) := by decide +kernel
theorem dX11_feed_27 : decode cX11_feed 27 = .ok (.invokevirtual 93, 3) := by decide +kernel
theorem dX11_feed_30 : decode cX11_feed 30 = .ok (.aload_n 0, 1) := by decide +kernel
theorem dX11_feed_31 : decode cX11_feed 31 = .ok (.iload 4, 2) := by decide +kernel
theorem dX11_feed_33 : decode cX11_feed 33 = .ok (.invokevirtual 93, 3) := by decide +kernel
theorem dX11_feed_36 : decode cX11_feed 36 = .ok (.aload_n 0, 1) := by decide +kernel
theorem dX11_feed_37 : decode cX11_feed 37 = .ok (.iload 5, 2) := by decide +kernel
theorem dX11_feed_39 : decode cX11_feed 39 = .ok (.invokevirtual 93, 3) := by decide +kernel
theorem dX11_feed_42 : decode cX11_feed 42 = .ok (.aload_n 0, 1) := by decide +kernel
theorem dX11_feed_43 : decode cX11_feed 43 = .ok (.getfield 89, 3) := by decide +kernel
theorem dX11_feed_46 : decode cX11_feed 46 = .ok (.ireturn, 1) := by decide +kernel
theorem dX11_putBytes_0 : decode cX11_putBytes 0 = .ok (.bipush 24, 2) := by decide +kernel
theorem dX11_putBytes_2 : decode cX11_putBytes 2 = .ok (.istore_n 2, 1) := by decide +kernel
theorem dX11_putBytes_3 : decode cX11_putBytes 3 = .ok (.iload_n 2, 1) := by decide +kernel
theorem dX11_putBytes_4 : decode cX11_putBytes 4 = .ok (.ifCond .lt 45, 3) := by decide +kernel
theorem dX11_putBytes_7 : decode cX11_putBytes 7 = .ok (.aload_n 0, 1) := by decide +kernel
theorem dX11_putBytes_8 : decode cX11_putBytes 8 = .ok (.getfield 89, 3) := by decide +kernel
theorem dX11_putBytes_11 : decode cX11_putBytes 11 = .ok (.sipush 400, 3) := by decide +kernel
theorem dX11_putBytes_14 : decode cX11_putBytes 14 = .ok (.if_icmp .ge 29, 3) := by decide +kernel
theorem dX11_putBytes_17 : decode cX11_putBytes 17 = .ok (.aload_n 0, 1) := by decide +kernel
theorem dX11_putBytes_18 : decode cX11_putBytes 18 = .ok (.getfield 9, 3) := by decide +kernel
theorem dX11_putBytes_21 : decode cX11_putBytes 21 = .ok (.aload_n 0, 1) := by decide +kernel
theorem dX11_putBytes_22 : decode cX11_putBytes 22 = .ok (.getfield 89, 3) := by decide +kernel
theorem dX11_putBytes_25 : decode cX11_putBytes 25 = .ok (.iload_n 1, 1) := by decide +kernel
theorem dX11_putBytes_26 : decode cX11_putBytes 26 = .ok (.iload_n 2, 1) := by decide +kernel
theorem dX11_putBytes_27 : decode cX11_putBytes 27 = .ok (.iushr, 1) := by decide +kernel
theorem dX11_putBytes_28 : decode cX11_putBytes 28 = .ok (.sipush 255, 3) := by decide +kernel
theorem dX11_putBytes_31 : decode cX11_putBytes 31 = .ok (.iand, 1) := by decide +kernel
theorem dX11_putBytes_32 : decode cX11_putBytes 32 = .ok (.iastore, 1) := by decide +kernel
theorem dX11_putBytes_33 : decode cX11_putBytes 33 = .ok (.aload_n 0, 1) := by decide +kernel
theorem dX11_putBytes_34 : decode cX11_putBytes 34 = .ok (.dup, 1) := by decide +kernel
theorem dX11_putBytes_35 : decode cX11_putBytes 35 = .ok (.getfield 89, 3) := by decide +kernel
theorem dX11_putBytes_38 : decode cX11_putBytes 38 = .ok (.iconst 1, 1) := by decide +kernel
theorem dX11_putBytes_39 : decode cX11_putBytes 39 = .ok (.iadd, 1) := by decide +kernel
theorem dX11_putBytes_40 : decode cX11_putBytes 40 = .ok (.putfield 89, 3) := by decide +kernel
theorem dX11_putBytes_43 : decode cX11_putBytes 43 = .ok (.iinc 2 (-8), 3) := by decide +kernel
theorem dX11_putBytes_46 : decode cX11_putBytes 46 = .ok (.goto (-43), 3) := by decide +kernel
theorem dX11_putBytes_49 : decode cX11_putBytes 49 = .ok (.return_, 1) := by decide +kernel
theorem dX11_end_0 : decode cX11_end 0 = .ok (.iload_n 1, 1) := by decide +kernel
theorem dX11_end_1 : decode cX11_end 1 = .ok (.ifCond .lt 11, 3) := by decide +kernel
theorem dX11_end_4 : decode cX11_end 4 = .ok (.iload_n 1, 1) := by decide +kernel
theorem dX11_end_5 : decode cX11_end 5 = .ok (.aload_n 0, 1) := by decide +kernel
theorem dX11_end_6 : decode cX11_end 6 = .ok (.getfield 89, 3) := by decide +kernel
theorem dX11_end_9 : decode cX11_end 9 = .ok (.if_icmp .le 5, 3) := by decide +kernel
theorem dX11_end_12 : decode cX11_end 12 = .ok (.iconst (-1), 1) := by decide +kernel
theorem dX11_end_13 : decode cX11_end 13 = .ok (.ireturn, 1) := by decide +kernel
theorem dX11_end_14 : decode cX11_end 14 = .ok (.aload_n 0, 1) := by decide +kernel
theorem dX11_end_15 : decode cX11_end 15 = .ok (.iload_n 1, 1) := by decide +kernel
theorem dX11_end_16 : decode cX11_end 16 = .ok (.putfield 89, 3) := by decide +kernel
theorem dX11_end_19 : decode cX11_end 19 = .ok (.iload_n 1, 1) := by decide +kernel
theorem dX11_end_20 : decode cX11_end 20 = .ok (.ireturn, 1) := by decide +kernel
theorem dX11_book_0 : decode cX11_book 0 = .ok (.aload_n 0, 1) := by decide +kernel
theorem dX11_book_1 : decode cX11_book 1 = .ok (.getfield 16, 3) := by decide +kernel
theorem dX11_book_4 : decode cX11_book 4 = .ok (.aload_n 0, 1) := by decide +kernel
theorem dX11_book_5 : decode cX11_book 5 = .ok (.getfield 9, 3) := by decide +kernel
theorem dX11_book_8 : decode cX11_book 8 = .ok (.aload_n 0, 1) := by decide +kernel
theorem dX11_book_9 : decode cX11_book 9 = .ok (.getfield 89, 3) := by decide +kernel
theorem dX11_book_12 : decode cX11_book 12 = .ok (.aload_n 0, 1) := by decide +kernel
theorem dX11_book_13 : decode cX11_book 13 = .ok (.getfield 27, 3) := by decide +kernel
theorem dX11_book_16 : decode cX11_book 16 = .ok (.invokevirtual 97, 3) := by decide +kernel
theorem dX11_book_19 : decode cX11_book 19 = .ok (.istore_n 1, 1) := by decide +kernel
theorem dX11_book_20 : decode cX11_book 20 = .ok (.aload_n 0, 1) := by decide +kernel
theorem dX11_book_21 : decode cX11_book 21 = .ok (.iconst 0, 1) := by decide +kernel
theorem dX11_book_22 : decode cX11_book 22 = .ok (.putfield 89, 3) := by decide +kernel
theorem dX11_book_25 : decode cX11_book 25 = .ok (.iload_n 1, 1) := by decide +kernel
theorem dX11_book_26 : decode cX11_book 26 = .ok (.ifCond .eq 8, 3) := by decide +kernel
theorem dX11_book_29 : decode cX11_book 29 = .ok (.bipush (-2), 2) := by decide +kernel
theorem dX11_book_31 : decode cX11_book 31 = .ok (.iload_n 1, 1) := by decide +kernel
theorem dX11_book_32 : decode cX11_book 32 = .ok (.isub, 1) := by decide +kernel
theorem dX11_book_33 : decode cX11_book 33 = .ok (.ireturn, 1) := by decide +kernel
theorem dX11_book_34 : decode cX11_book 34 = .ok (.aload_n 0, 1) := by decide +kernel
theorem dX11_book_35 : decode cX11_book 35 = .ok (.getfield 23, 3) := by decide +kernel
theorem dX11_book_38 : decode cX11_book 38 = .ok (.aload_n 0, 1) := by decide +kernel
theorem dX11_book_39 : decode cX11_book 39 = .ok (.getfield 27, 3) := by decide +kernel
theorem dX11_book_42 : decode cX11_book 42 = .ok (.invokevirtual 101, 3) := by decide +kernel
theorem dX11_book_45 : decode cX11_book 45 = .ok (.aload_n 0, 1) := by decide +kernel
theorem dX11_book_46 : decode cX11_book 46 = .ok (.getfield 33, 3) := by decide +kernel
theorem dX11_book_49 : decode cX11_book 49 = .ok (.iconst 0, 1) := by decide +kernel
theorem dX11_book_50 : decode cX11_book 50 = .ok (.putfield 105, 3) := by decide +kernel
theorem dX11_book_53 : decode cX11_book 53 = .ok (.aload_n 0, 1) := by decide +kernel
theorem dX11_book_54 : decode cX11_book 54 = .ok (.getfield 75, 3) := by decide +kernel
theorem dX11_book_57 : decode cX11_book 57 = .ok (.iconst 0, 1) := by decide +kernel
theorem dX11_book_58 : decode cX11_book 58 = .ok (.putfield 108, 3) := by decide +kernel
theorem dX11_book_61 : decode cX11_book 61 = .ok (.aload_n 0, 1) := by decide +kernel
theorem dX11_book_62 : decode cX11_book 62 = .ok (.getfield 23, 3) := by decide +kernel
theorem dX11_book_65 : decode cX11_book 65 = .ok (.getfield 112, 3) := by decide +kernel
theorem dX11_book_68 : decode cX11_book 68 = .ok (.invokestatic 115, 3) := by decide +kernel
theorem dX11_book_71 : decode cX11_book 71 = .ok (.ireturn, 1) := by decide +kernel
theorem dX11_rule_0 : decode cX11_rule 0 = .ok (.aload_n 0, 1) := by decide +kernel
theorem dX11_rule_1 : decode cX11_rule 1 = .ok (.getfield 121, 3) := by decide +kernel
theorem dX11_rule_4 : decode cX11_rule 4 = .ok (.bipush 6, 2) := by decide +kernel
theorem dX11_rule_6 : decode cX11_rule 6 = .ok (.if_icmp .lt 5, 3) := by decide +kernel
theorem dX11_rule_9 : decode cX11_rule 9 = .ok (.iconst (-1), 1) := by decide +kernel
theorem dX11_rule_10 : decode cX11_rule 10 = .ok (.ireturn, 1) := by decide +kernel
theorem dX11_rule_11 : decode cX11_rule 11 = .ok (.aload_n 0, 1) := by decide +kernel
theorem dX11_rule_12 : decode cX11_rule 12 = .ok (.getfield 16, 3) := by decide +kernel
theorem dX11_rule_15 : decode cX11_rule 15 = .ok (.aload_n 0, 1) := by decide +kernel
theorem dX11_rule_16 : decode cX11_rule 16 = .ok (.getfield 9, 3) := by decide +kernel
theorem dX11_rule_19 : decode cX11_rule 19 = .ok (.aload_n 0, 1) := by decide +kernel
theorem dX11_rule_20 : decode cX11_rule 20 = .ok (.getfield 89, 3) := by decide +kernel
theorem dX11_rule_23 : decode cX11_rule 23 = .ok (.aload_n 0, 1) := by decide +kernel
theorem dX11_rule_24 : decode cX11_rule 24 = .ok (.getfield 39, 3) := by decide +kernel
theorem dX11_rule_27 : decode cX11_rule 27 = .ok (.aload_n 0, 1) := by decide +kernel
theorem dX11_rule_28 : decode cX11_rule 28 = .ok (.getfield 121, 3) := by decide +kernel
theorem dX11_rule_31 : decode cX11_rule 31 = .ok (.aaload, 1) := by decide +kernel
theorem dX11_rule_32 : decode cX11_rule 32 = .ok (.invokevirtual 124, 3) := by decide +kernel
theorem dX11_rule_35 : decode cX11_rule 35 = .ok (.istore_n 1, 1) := by decide +kernel
theorem dX11_rule_36 : decode cX11_rule 36 = .ok (.aload_n 0, 1) := by decide +kernel
theorem dX11_rule_37 : decode cX11_rule 37 = .ok (.iconst 0, 1) := by decide +kernel
theorem dX11_rule_38 : decode cX11_rule 38 = .ok (.putfield 89, 3) := by decide +kernel
theorem dX11_rule_41 : decode cX11_rule 41 = .ok (.iload_n 1, 1) := by decide +kernel
theorem dX11_rule_42 : decode cX11_rule 42 = .ok (.ifCond .eq 8, 3) := by decide +kernel
theorem dX11_rule_45 : decode cX11_rule 45 = .ok (.bipush (-2), 2) := by decide +kernel
theorem dX11_rule_47 : decode cX11_rule 47 = .ok (.iload_n 1, 1) := by decide +kernel
theorem dX11_rule_48 : decode cX11_rule 48 = .ok (.isub, 1) := by decide +kernel
theorem dX11_rule_49 : decode cX11_rule 49 = .ok (.ireturn, 1) := by decide +kernel
theorem dX11_rule_50 : decode cX11_rule 50 = .ok (.aload_n 0, 1) := by decide +kernel
theorem dX11_rule_51 : decode cX11_rule 51 = .ok (.dup, 1) := by decide +kernel
theorem dX11_rule_52 : decode cX11_rule 52 = .ok (.getfield 121, 3) := by decide +kernel
theorem dX11_rule_55 : decode cX11_rule 55 = .ok (.iconst 1, 1) := by decide +kernel
theorem dX11_rule_56 : decode cX11_rule 56 = .ok (.iadd, 1) := by decide +kernel
theorem dX11_rule_57 : decode cX11_rule 57 = .ok (.putfield 121, 3) := by decide +kernel
theorem dX11_rule_60 : decode cX11_rule 60 = .ok (.aload_n 0, 1) := by decide +kernel
theorem dX11_rule_61 : decode cX11_rule 61 = .ok (.getfield 121, 3) := by decide +kernel
theorem dX11_rule_64 : decode cX11_rule 64 = .ok (.iconst 1, 1) := by decide +kernel
theorem dX11_rule_65 : decode cX11_rule 65 = .ok (.isub, 1) := by decide +kernel
theorem dX11_rule_66 : decode cX11_rule 66 = .ok (.ireturn, 1) := by decide +kernel
theorem dX11_thing_0 : decode cX11_thing 0 = .ok (.aload_n 0, 1) := by decide +kernel
theorem dX11_thing_1 : decode cX11_thing 1 = .ok (.getfield 23, 3) := by decide +kernel
theorem dX11_thing_4 : decode cX11_thing 4 = .ok (.iload_n 1, 1) := by decide +kernel
theorem dX11_thing_5 : decode cX11_thing 5 = .ok (.invokevirtual 128, 3) := by decide +kernel
theorem dX11_thing_8 : decode cX11_thing 8 = .ok (.ifCond .ne 6, 3) := by decide +kernel
theorem dX11_thing_11 : decode cX11_thing 11 = .ok (.bipush (-2), 2) := by decide +kernel
theorem dX11_thing_13 : decode cX11_thing 13 = .ok (.ireturn, 1) := by decide +kernel
theorem dX11_thing_14 : decode cX11_thing 14 = .ok (.iload_n 2, 1) := by decide +kernel
set_option maxRecDepth 20000 in
theorem dX11_thing_15 : decode cX11_thing 15 = .ok (.tableswitch 97 0 5 #[37, 47, 57, 67, 77, 87], 37) := by decide +kernel
theorem dX11_thing_52 : decode cX11_thing 52 = .ok (.aload_n 0, 1) := by decide +kernel
theorem dX11_thing_53 : decode cX11_thing 53 = .ok (.getfield 23, 3) := by decide +kernel
theorem dX11_thing_56 : decode cX11_thing 56 = .ok (.getfield 132, 3) := by decide +kernel
theorem dX11_thing_59 : decode cX11_thing 59 = .ok (.iload_n 1, 1) := by decide +kernel
theorem dX11_thing_60 : decode cX11_thing 60 = .ok (.iaload, 1) := by decide +kernel
theorem dX11_thing_61 : decode cX11_thing 61 = .ok (.ireturn, 1) := by decide +kernel
theorem dX11_thing_62 : decode cX11_thing 62 = .ok (.aload_n 0, 1) := by decide +kernel
theorem dX11_thing_63 : decode cX11_thing 63 = .ok (.getfield 23, 3) := by decide +kernel
theorem dX11_thing_66 : decode cX11_thing 66 = .ok (.getfield 135, 3) := by decide +kernel
theorem dX11_thing_69 : decode cX11_thing 69 = .ok (.iload_n 1, 1) := by decide +kernel
theorem dX11_thing_70 : decode cX11_thing 70 = .ok (.iaload, 1) := by decide +kernel
theorem dX11_thing_71 : decode cX11_thing 71 = .ok (.ireturn, 1) := by decide +kernel
theorem dX11_thing_72 : decode cX11_thing 72 = .ok (.aload_n 0, 1) := by decide +kernel
theorem dX11_thing_73 : decode cX11_thing 73 = .ok (.getfield 23, 3) := by decide +kernel
theorem dX11_thing_76 : decode cX11_thing 76 = .ok (.getfield 138, 3) := by decide +kernel
theorem dX11_thing_79 : decode cX11_thing 79 = .ok (.iload_n 1, 1) := by decide +kernel
theorem dX11_thing_80 : decode cX11_thing 80 = .ok (.iaload, 1) := by decide +kernel
theorem dX11_thing_81 : decode cX11_thing 81 = .ok (.ireturn, 1) := by decide +kernel
theorem dX11_thing_82 : decode cX11_thing 82 = .ok (.aload_n 0, 1) := by decide +kernel
theorem dX11_thing_83 : decode cX11_thing 83 = .ok (.getfield 23, 3) := by decide +kernel
theorem dX11_thing_86 : decode cX11_thing 86 = .ok (.getfield 141, 3) := by decide +kernel
theorem dX11_thing_89 : decode cX11_thing 89 = .ok (.iload_n 1, 1) := by decide +kernel
theorem dX11_thing_90 : decode cX11_thing 90 = .ok (.iaload, 1) := by decide +kernel
theorem dX11_thing_91 : decode cX11_thing 91 = .ok (.ireturn, 1) := by decide +kernel
theorem dX11_thing_92 : decode cX11_thing 92 = .ok (.aload_n 0, 1) := by decide +kernel
theorem dX11_thing_93 : decode cX11_thing 93 = .ok (.getfield 23, 3) := by decide +kernel
theorem dX11_thing_96 : decode cX11_thing 96 = .ok (.getfield 144, 3) := by decide +kernel
theorem dX11_thing_99 : decode cX11_thing 99 = .ok (.iload_n 1, 1) := by decide +kernel
theorem dX11_thing_100 : decode cX11_thing 100 = .ok (.iaload, 1) := by decide +kernel
theorem dX11_thing_101 : decode cX11_thing 101 = .ok (.ireturn, 1) := by decide +kernel
theorem dX11_thing_102 : decode cX11_thing 102 = .ok (.aload_n 0, 1) := by decide +kernel
theorem dX11_thing_103 : decode cX11_thing 103 = .ok (.getfield 23, 3) := by decide +kernel
theorem dX11_thing_106 : decode cX11_thing 106 = .ok (.getfield 147, 3) := by decide +kernel
theorem dX11_thing_109 : decode cX11_thing 109 = .ok (.iload_n 1, 1) := by decide +kernel
theorem dX11_thing_110 : decode cX11_thing 110 = .ok (.iaload, 1) := by decide +kernel
theorem dX11_thing_111 : decode cX11_thing 111 = .ok (.ireturn, 1) := by decide +kernel
theorem dX11_thing_112 : decode cX11_thing 112 = .ok (.bipush (-2), 2) := by decide +kernel
theorem dX11_thing_114 : decode cX11_thing 114 = .ok (.ireturn, 1) := by decide +kernel
theorem dX11_count_0 : decode cX11_count 0 = .ok (.iload_n 1, 1) := by decide +kernel
set_option maxRecDepth 20000 in
theorem dX11_count_1 : decode cX11_count 1 = .ok (.tableswitch 147 0 10 #[59, 67, 75, 83, 91, 99, 107, 118, 129, 134, 142], 59) := by decide +kernel
theorem dX11_count_60 : decode cX11_count 60 = .ok (.aload_n 0, 1) := by decide +kernel
theorem dX11_count_61 : decode cX11_count 61 = .ok (.getfield 23, 3) := by decide +kernel
theorem dX11_count_64 : decode cX11_count 64 = .ok (.getfield 112, 3) := by decide +kernel
theorem dX11_count_67 : decode cX11_count 67 = .ok (.ireturn, 1) := by decide +kernel
theorem dX11_count_68 : decode cX11_count 68 = .ok (.aload_n 0, 1) := by decide +kernel
theorem dX11_count_69 : decode cX11_count 69 = .ok (.getfield 23, 3) := by decide +kernel
theorem dX11_count_72 : decode cX11_count 72 = .ok (.getfield 150, 3) := by decide +kernel
theorem dX11_count_75 : decode cX11_count 75 = .ok (.ireturn, 1) := by decide +kernel
theorem dX11_count_76 : decode cX11_count 76 = .ok (.aload_n 0, 1) := by decide +kernel
theorem dX11_count_77 : decode cX11_count 77 = .ok (.getfield 23, 3) := by decide +kernel
theorem dX11_count_80 : decode cX11_count 80 = .ok (.getfield 153, 3) := by decide +kernel
theorem dX11_count_83 : decode cX11_count 83 = .ok (.ireturn, 1) := by decide +kernel
theorem dX11_count_84 : decode cX11_count 84 = .ok (.aload_n 0, 1) := by decide +kernel
theorem dX11_count_85 : decode cX11_count 85 = .ok (.getfield 23, 3) := by decide +kernel
theorem dX11_count_88 : decode cX11_count 88 = .ok (.getfield 156, 3) := by decide +kernel
theorem dX11_count_91 : decode cX11_count 91 = .ok (.ireturn, 1) := by decide +kernel
theorem dX11_count_92 : decode cX11_count 92 = .ok (.aload_n 0, 1) := by decide +kernel
theorem dX11_count_93 : decode cX11_count 93 = .ok (.getfield 23, 3) := by decide +kernel
theorem dX11_count_96 : decode cX11_count 96 = .ok (.getfield 159, 3) := by decide +kernel
theorem dX11_count_99 : decode cX11_count 99 = .ok (.ireturn, 1) := by decide +kernel
theorem dX11_count_100 : decode cX11_count 100 = .ok (.aload_n 0, 1) := by decide +kernel
theorem dX11_count_101 : decode cX11_count 101 = .ok (.getfield 23, 3) := by decide +kernel
theorem dX11_count_104 : decode cX11_count 104 = .ok (.getfield 162, 3) := by decide +kernel
theorem dX11_count_107 : decode cX11_count 107 = .ok (.ireturn, 1) := by decide +kernel
theorem dX11_count_108 : decode cX11_count 108 = .ok (.aload_n 0, 1) := by decide +kernel
theorem dX11_count_109 : decode cX11_count 109 = .ok (.getfield 23, 3) := by decide +kernel
theorem dX11_count_112 : decode cX11_count 112 = .ok (.getfield 165, 3) := by decide +kernel
theorem dX11_count_115 : decode cX11_count 115 = .ok (.getfield 169, 3) := by decide +kernel
theorem dX11_count_118 : decode cX11_count 118 = .ok (.ireturn, 1) := by decide +kernel
theorem dX11_count_119 : decode cX11_count 119 = .ok (.aload_n 0, 1) := by decide +kernel
theorem dX11_count_120 : decode cX11_count 120 = .ok (.getfield 23, 3) := by decide +kernel
theorem dX11_count_123 : decode cX11_count 123 = .ok (.getfield 172, 3) := by decide +kernel
theorem dX11_count_126 : decode cX11_count 126 = .ok (.getfield 169, 3) := by decide +kernel
theorem dX11_count_129 : decode cX11_count 129 = .ok (.ireturn, 1) := by decide +kernel
theorem dX11_count_130 : decode cX11_count 130 = .ok (.aload_n 0, 1) := by decide +kernel
theorem dX11_count_131 : decode cX11_count 131 = .ok (.getfield 121, 3) := by decide +kernel
theorem dX11_count_134 : decode cX11_count 134 = .ok (.ireturn, 1) := by decide +kernel
theorem dX11_count_135 : decode cX11_count 135 = .ok (.aload_n 0, 1) := by decide +kernel
theorem dX11_count_136 : decode cX11_count 136 = .ok (.getfield 33, 3) := by decide +kernel
theorem dX11_count_139 : decode cX11_count 139 = .ok (.getfield 105, 3) := by decide +kernel
theorem dX11_count_142 : decode cX11_count 142 = .ok (.ireturn, 1) := by decide +kernel
theorem dX11_count_143 : decode cX11_count 143 = .ok (.aload_n 0, 1) := by decide +kernel
theorem dX11_count_144 : decode cX11_count 144 = .ok (.getfield 89, 3) := by decide +kernel
theorem dX11_count_147 : decode cX11_count 147 = .ok (.ireturn, 1) := by decide +kernel
theorem dX11_count_148 : decode cX11_count 148 = .ok (.bipush (-2), 2) := by decide +kernel
theorem dX11_count_150 : decode cX11_count 150 = .ok (.ireturn, 1) := by decide +kernel
theorem dX11_owed_0 : decode cX11_owed 0 = .ok (.aload_n 0, 1) := by decide +kernel
theorem dX11_owed_1 : decode cX11_owed 1 = .ok (.getfield 23, 3) := by decide +kernel
theorem dX11_owed_4 : decode cX11_owed 4 = .ok (.iload_n 1, 1) := by decide +kernel
theorem dX11_owed_5 : decode cX11_owed 5 = .ok (.invokevirtual 128, 3) := by decide +kernel
theorem dX11_owed_8 : decode cX11_owed 8 = .ok (.ifCond .eq 22, 3) := by decide +kernel
theorem dX11_owed_11 : decode cX11_owed 11 = .ok (.iload_n 2, 1) := by decide +kernel
theorem dX11_owed_12 : decode cX11_owed 12 = .ok (.invokestatic 175, 3) := by decide +kernel
theorem dX11_owed_15 : decode cX11_owed 15 = .ok (.ifCond .eq 15, 3) := by decide +kernel
theorem dX11_owed_18 : decode cX11_owed 18 = .ok (.aload_n 0, 1) := by decide +kernel
theorem dX11_owed_19 : decode cX11_owed 19 = .ok (.getfield 23, 3) := by decide +kernel
theorem dX11_owed_22 : decode cX11_owed 22 = .ok (.iload_n 1, 1) := by decide +kernel
theorem dX11_owed_23 : decode cX11_owed 23 = .ok (.iload_n 2, 1) := by decide +kernel
theorem dX11_owed_24 : decode cX11_owed 24 = .ok (.invokevirtual 178, 3) := by decide +kernel
theorem dX11_owed_27 : decode cX11_owed 27 = .ok (.goto 4, 3) := by decide +kernel
theorem dX11_owed_30 : decode cX11_owed 30 = .ok (.iconst (-1), 1) := by decide +kernel
theorem dX11_owed_31 : decode cX11_owed 31 = .ok (.ireturn, 1) := by decide +kernel
theorem dX11_earned_0 : decode cX11_earned 0 = .ok (.aload_n 0, 1) := by decide +kernel
theorem dX11_earned_1 : decode cX11_earned 1 = .ok (.getfield 23, 3) := by decide +kernel
theorem dX11_earned_4 : decode cX11_earned 4 = .ok (.iload_n 1, 1) := by decide +kernel
theorem dX11_earned_5 : decode cX11_earned 5 = .ok (.invokevirtual 182, 3) := by decide +kernel
theorem dX11_earned_8 : decode cX11_earned 8 = .ok (.ifCond .eq 10, 3) := by decide +kernel
theorem dX11_earned_11 : decode cX11_earned 11 = .ok (.iload_n 2, 1) := by decide +kernel
theorem dX11_earned_12 : decode cX11_earned 12 = .ok (.invokestatic 175, 3) := by decide +kernel
theorem dX11_earned_15 : decode cX11_earned 15 = .ok (.ifCond .ne 5, 3) := by decide +kernel
theorem dX11_earned_18 : decode cX11_earned 18 = .ok (.iconst (-1), 1) := by decide +kernel
theorem dX11_earned_19 : decode cX11_earned 19 = .ok (.ireturn, 1) := by decide +kernel
theorem dX11_earned_20 : decode cX11_earned 20 = .ok (.iload_n 3, 1) := by decide +kernel
theorem dX11_earned_21 : decode cX11_earned 21 = .ok (.ifCond .ne 28, 3) := by decide +kernel
theorem dX11_earned_24 : decode cX11_earned 24 = .ok (.aload_n 0, 1) := by decide +kernel
theorem dX11_earned_25 : decode cX11_earned 25 = .ok (.getfield 23, 3) := by decide +kernel
theorem dX11_earned_28 : decode cX11_earned 28 = .ok (.aload_n 0, 1) := by decide +kernel
theorem dX11_earned_29 : decode cX11_earned 29 = .ok (.getfield 59, 3) := by decide +kernel
theorem dX11_earned_32 : decode cX11_earned 32 = .ok (.iload_n 2, 1) := by decide +kernel
theorem dX11_earned_33 : decode cX11_earned 33 = .ok (.iload_n 1, 1) := by decide +kernel
theorem dX11_earned_34 : decode cX11_earned 34 = .ok (.aload_n 0, 1) := by decide +kernel
theorem dX11_earned_35 : decode cX11_earned 35 = .ok (.getfield 23, 3) := by decide +kernel
theorem dX11_earned_38 : decode cX11_earned 38 = .ok (.getfield 112, 3) := by decide +kernel
theorem dX11_earned_41 : decode cX11_earned 41 = .ok (.iload_n 1, 1) := by decide +kernel
theorem dX11_earned_42 : decode cX11_earned 42 = .ok (.iconst (-1), 1) := by decide +kernel
theorem dX11_earned_43 : decode cX11_earned 43 = .ok (.ixor, 1) := by decide +kernel
theorem dX11_earned_44 : decode cX11_earned 44 = .ok (.iand, 1) := by decide +kernel
theorem dX11_earned_45 : decode cX11_earned 45 = .ok (.invokevirtual 185, 3) := by decide +kernel
theorem dX11_earned_48 : decode cX11_earned 48 = .ok (.ireturn, 1) := by decide +kernel
theorem dX11_earned_49 : decode cX11_earned 49 = .ok (.iload_n 3, 1) := by decide +kernel
theorem dX11_earned_50 : decode cX11_earned 50 = .ok (.iconst 1, 1) := by decide +kernel
theorem dX11_earned_51 : decode cX11_earned 51 = .ok (.if_icmp .ne 30, 3) := by decide +kernel
theorem dX11_earned_54 : decode cX11_earned 54 = .ok (.aload_n 0, 1) := by decide +kernel
theorem dX11_earned_55 : decode cX11_earned 55 = .ok (.getfield 23, 3) := by decide +kernel
theorem dX11_earned_58 : decode cX11_earned 58 = .ok (.aload_n 0, 1) := by decide +kernel
theorem dX11_earned_59 : decode cX11_earned 59 = .ok (.getfield 59, 3) := by decide +kernel
theorem dX11_earned_62 : decode cX11_earned 62 = .ok (.iload_n 2, 1) := by decide +kernel
theorem dX11_earned_63 : decode cX11_earned 63 = .ok (.iload_n 1, 1) := by decide +kernel
theorem dX11_earned_64 : decode cX11_earned 64 = .ok (.aload_n 0, 1) := by decide +kernel
theorem dX11_earned_65 : decode cX11_earned 65 = .ok (.getfield 23, 3) := by decide +kernel
theorem dX11_earned_68 : decode cX11_earned 68 = .ok (.getfield 112, 3) := by decide +kernel
theorem dX11_earned_71 : decode cX11_earned 71 = .ok (.iload_n 1, 1) := by decide +kernel
theorem dX11_earned_72 : decode cX11_earned 72 = .ok (.iconst (-1), 1) := by decide +kernel
theorem dX11_earned_73 : decode cX11_earned 73 = .ok (.ixor, 1) := by decide +kernel
theorem dX11_earned_74 : decode cX11_earned 74 = .ok (.iand, 1) := by decide +kernel
theorem dX11_earned_75 : decode cX11_earned 75 = .ok (.invokevirtual 189, 3) := by decide +kernel
theorem dX11_earned_78 : decode cX11_earned 78 = .ok (.goto 4, 3) := by decide +kernel
theorem dX11_earned_81 : decode cX11_earned 81 = .ok (.iconst (-1), 1) := by decide +kernel
theorem dX11_earned_82 : decode cX11_earned 82 = .ok (.ireturn, 1) := by decide +kernel
theorem dX11_isTellable_0 : decode cX11_isTellable 0 = .ok (.iload_n 0, 1) := by decide +kernel
theorem dX11_isTellable_1 : decode cX11_isTellable 1 = .ok (.ifCond .lt 13, 3) := by decide +kernel
theorem dX11_isTellable_4 : decode cX11_isTellable 4 = .ok (.iload_n 0, 1) := by decide +kernel
theorem dX11_isTellable_5 : decode cX11_isTellable 5 = .ok (.bipush 60, 2) := by decide +kernel
theorem dX11_isTellable_7 : decode cX11_isTellable 7 = .ok (.if_icmp .gt 7, 3) := by decide +kernel
theorem dX11_isTellable_10 : decode cX11_isTellable 10 = .ok (.iconst 1, 1) := by decide +kernel
theorem dX11_isTellable_11 : decode cX11_isTellable 11 = .ok (.goto 4, 3) := by decide +kernel
theorem dX11_isTellable_14 : decode cX11_isTellable 14 = .ok (.iconst 0, 1) := by decide +kernel
theorem dX11_isTellable_15 : decode cX11_isTellable 15 = .ok (.ireturn, 1) := by decide +kernel
theorem dX11_isRule_0 : decode cX11_isRule 0 = .ok (.iload_n 1, 1) := by decide +kernel
theorem dX11_isRule_1 : decode cX11_isRule 1 = .ok (.ifCond .lt 21, 3) := by decide +kernel
theorem dX11_isRule_4 : decode cX11_isRule 4 = .ok (.iload_n 1, 1) := by decide +kernel
theorem dX11_isRule_5 : decode cX11_isRule 5 = .ok (.aload_n 0, 1) := by decide +kernel
theorem dX11_isRule_6 : decode cX11_isRule 6 = .ok (.getfield 121, 3) := by decide +kernel
theorem dX11_isRule_9 : decode cX11_isRule 9 = .ok (.if_icmp .ge 13, 3) := by decide +kernel
theorem dX11_isRule_12 : decode cX11_isRule 12 = .ok (.iload_n 1, 1) := by decide +kernel
theorem dX11_isRule_13 : decode cX11_isRule 13 = .ok (.bipush 6, 2) := by decide +kernel
theorem dX11_isRule_15 : decode cX11_isRule 15 = .ok (.if_icmp .ge 7, 3) := by decide +kernel
theorem dX11_isRule_18 : decode cX11_isRule 18 = .ok (.iconst 1, 1) := by decide +kernel
theorem dX11_isRule_19 : decode cX11_isRule 19 = .ok (.goto 4, 3) := by decide +kernel
theorem dX11_isRule_22 : decode cX11_isRule 22 = .ok (.iconst 0, 1) := by decide +kernel
theorem dX11_isRule_23 : decode cX11_isRule 23 = .ok (.ireturn, 1) := by decide +kernel
theorem dX11_act_0 : decode cX11_act 0 = .ok (.iload_n 2, 1) := by decide +kernel
theorem dX11_act_1 : decode cX11_act 1 = .ok (.iconst 4, 1) := by decide +kernel
theorem dX11_act_2 : decode cX11_act 2 = .ok (.if_icmp .ne 15, 3) := by decide +kernel
theorem dX11_act_5 : decode cX11_act 5 = .ok (.iload_n 3, 1) := by decide +kernel
theorem dX11_act_6 : decode cX11_act 6 = .ok (.ifCond .ne 7, 3) := by decide +kernel
theorem dX11_act_9 : decode cX11_act 9 = .ok (.iconst 1, 1) := by decide +kernel
theorem dX11_act_10 : decode cX11_act 10 = .ok (.goto 32, 3) := by decide +kernel
theorem dX11_act_13 : decode cX11_act 13 = .ok (.iconst 0, 1) := by decide +kernel
theorem dX11_act_14 : decode cX11_act 14 = .ok (.goto 28, 3) := by decide +kernel
theorem dX11_act_17 : decode cX11_act 17 = .ok (.iload_n 2, 1) := by decide +kernel
theorem dX11_act_18 : decode cX11_act 18 = .ok (.ifCond .lt 23, 3) := by decide +kernel
theorem dX11_act_21 : decode cX11_act 21 = .ok (.iload_n 2, 1) := by decide +kernel
theorem dX11_act_22 : decode cX11_act 22 = .ok (.iconst 4, 1) := by decide +kernel
theorem dX11_act_23 : decode cX11_act 23 = .ok (.if_icmp .ge 18, 3) := by decide +kernel
theorem dX11_act_26 : decode cX11_act 26 = .ok (.aload_n 0, 1) := by decide +kernel
theorem dX11_act_27 : decode cX11_act 27 = .ok (.getfield 23, 3) := by decide +kernel
theorem dX11_act_30 : decode cX11_act 30 = .ok (.iload_n 3, 1) := by decide +kernel
theorem dX11_act_31 : decode cX11_act 31 = .ok (.invokevirtual 128, 3) := by decide +kernel
theorem dX11_act_34 : decode cX11_act 34 = .ok (.ifCond .eq 7, 3) := by decide +kernel
theorem dX11_act_37 : decode cX11_act 37 = .ok (.iconst 1, 1) := by decide +kernel
theorem dX11_act_38 : decode cX11_act 38 = .ok (.goto 4, 3) := by decide +kernel
theorem dX11_act_41 : decode cX11_act 41 = .ok (.iconst 0, 1) := by decide +kernel
theorem dX11_act_42 : decode cX11_act 42 = .ok (.istore 4, 2) := by decide +kernel
theorem dX11_act_44 : decode cX11_act 44 = .ok (.iload 4, 2) := by decide +kernel
theorem dX11_act_46 : decode cX11_act 46 = .ok (.ifCond .eq 21, 3) := by decide +kernel
theorem dX11_act_49 : decode cX11_act 49 = .ok (.iload_n 1, 1) := by decide +kernel
theorem dX11_act_50 : decode cX11_act 50 = .ok (.invokestatic 175, 3) := by decide +kernel
theorem dX11_act_53 : decode cX11_act 53 = .ok (.ifCond .eq 14, 3) := by decide +kernel
theorem dX11_act_56 : decode cX11_act 56 = .ok (.aload_n 0, 1) := by decide +kernel
theorem dX11_act_57 : decode cX11_act 57 = .ok (.getfield 33, 3) := by decide +kernel
theorem dX11_act_60 : decode cX11_act 60 = .ok (.iload_n 1, 1) := by decide +kernel
theorem dX11_act_61 : decode cX11_act 61 = .ok (.invokevirtual 192, 3) := by decide +kernel
theorem dX11_act_64 : decode cX11_act 64 = .ok (.ifCond .ne 5, 3) := by decide +kernel
theorem dX11_act_67 : decode cX11_act 67 = .ok (.iconst (-1), 1) := by decide +kernel
theorem dX11_act_68 : decode cX11_act 68 = .ok (.ireturn, 1) := by decide +kernel
theorem dX11_act_69 : decode cX11_act 69 = .ok (.aload_n 0, 1) := by decide +kernel
theorem dX11_act_70 : decode cX11_act 70 = .ok (.getfield 33, 3) := by decide +kernel
theorem dX11_act_73 : decode cX11_act 73 = .ok (.iload_n 1, 1) := by decide +kernel
theorem dX11_act_74 : decode cX11_act 74 = .ok (.iload_n 2, 1) := by decide +kernel
theorem dX11_act_75 : decode cX11_act 75 = .ok (.iload_n 3, 1) := by decide +kernel
theorem dX11_act_76 : decode cX11_act 76 = .ok (.invokevirtual 195, 3) := by decide +kernel
theorem dX11_act_79 : decode cX11_act 79 = .ok (.aload_n 0, 1) := by decide +kernel
theorem dX11_act_80 : decode cX11_act 80 = .ok (.getfield 33, 3) := by decide +kernel
theorem dX11_act_83 : decode cX11_act 83 = .ok (.getfield 105, 3) := by decide +kernel
theorem dX11_act_86 : decode cX11_act 86 = .ok (.ireturn, 1) := by decide +kernel
theorem dX11_row_0 : decode cX11_row 0 = .ok (.iload_n 1, 1) := by decide +kernel
theorem dX11_row_1 : decode cX11_row 1 = .ok (.ifCond .lt 14, 3) := by decide +kernel
theorem dX11_row_4 : decode cX11_row 4 = .ok (.iload_n 1, 1) := by decide +kernel
theorem dX11_row_5 : decode cX11_row 5 = .ok (.aload_n 0, 1) := by decide +kernel
theorem dX11_row_6 : decode cX11_row 6 = .ok (.getfield 33, 3) := by decide +kernel
theorem dX11_row_9 : decode cX11_row 9 = .ok (.getfield 105, 3) := by decide +kernel
theorem dX11_row_12 : decode cX11_row 12 = .ok (.if_icmp .le 5, 3) := by decide +kernel
theorem dX11_row_15 : decode cX11_row 15 = .ok (.iconst 0, 1) := by decide +kernel
theorem dX11_row_16 : decode cX11_row 16 = .ok (.ireturn, 1) := by decide +kernel
theorem dX11_row_17 : decode cX11_row 17 = .ok (.aload_n 0, 1) := by decide +kernel
theorem dX11_row_18 : decode cX11_row 18 = .ok (.getfield 33, 3) := by decide +kernel
theorem dX11_row_21 : decode cX11_row 21 = .ok (.iload_n 1, 1) := by decide +kernel
theorem dX11_row_22 : decode cX11_row 22 = .ok (.putfield 105, 3) := by decide +kernel
theorem dX11_row_25 : decode cX11_row 25 = .ok (.iconst 1, 1) := by decide +kernel
theorem dX11_row_26 : decode cX11_row 26 = .ok (.ireturn, 1) := by decide +kernel
theorem dX11_judged_0 : decode cX11_judged 0 = .ok (.aload_n 0, 1) := by decide +kernel
theorem dX11_judged_1 : decode cX11_judged 1 = .ok (.getfield 68, 3) := by decide +kernel
theorem dX11_judged_4 : decode cX11_judged 4 = .ok (.aload_n 0, 1) := by decide +kernel
theorem dX11_judged_5 : decode cX11_judged 5 = .ok (.getfield 33, 3) := by decide +kernel
theorem dX11_judged_8 : decode cX11_judged 8 = .ok (.ldc2_w 199, 3) := by decide +kernel
theorem dX11_judged_11 : decode cX11_judged 11 = .ok (.invokevirtual 201, 3) := by decide +kernel
theorem dX11_judged_14 : decode cX11_judged 14 = .ok (.iload_n 1, 1) := by decide +kernel
set_option maxRecDepth 20000 in
theorem dX11_judged_15 : decode cX11_judged 15 = .ok (.tableswitch 73 0 4 #[33, 41, 49, 57, 65], 33) := by decide +kernel
theorem dX11_judged_48 : decode cX11_judged 48 = .ok (.aload_n 0, 1) := by decide +kernel
theorem dX11_judged_49 : decode cX11_judged 49 = .ok (.getfield 68, 3) := by decide +kernel
theorem dX11_judged_52 : decode cX11_judged 52 = .ok (.getfield 205, 3) := by decide +kernel
theorem dX11_judged_55 : decode cX11_judged 55 = .ok (.ireturn, 1) := by decide +kernel
theorem dX11_judged_56 : decode cX11_judged 56 = .ok (.aload_n 0, 1) := by decide +kernel
theorem dX11_judged_57 : decode cX11_judged 57 = .ok (.getfield 68, 3) := by decide +kernel
theorem dX11_judged_60 : decode cX11_judged 60 = .ok (.getfield 208, 3) := by decide +kernel
theorem dX11_judged_63 : decode cX11_judged 63 = .ok (.ireturn, 1) := by decide +kernel
theorem dX11_judged_64 : decode cX11_judged 64 = .ok (.aload_n 0, 1) := by decide +kernel
theorem dX11_judged_65 : decode cX11_judged 65 = .ok (.getfield 68, 3) := by decide +kernel
theorem dX11_judged_68 : decode cX11_judged 68 = .ok (.getfield 211, 3) := by decide +kernel
theorem dX11_judged_71 : decode cX11_judged 71 = .ok (.ireturn, 1) := by decide +kernel
theorem dX11_judged_72 : decode cX11_judged 72 = .ok (.aload_n 0, 1) := by decide +kernel
theorem dX11_judged_73 : decode cX11_judged 73 = .ok (.getfield 68, 3) := by decide +kernel
theorem dX11_judged_76 : decode cX11_judged 76 = .ok (.getfield 212, 3) := by decide +kernel
theorem dX11_judged_79 : decode cX11_judged 79 = .ok (.ireturn, 1) := by decide +kernel
theorem dX11_judged_80 : decode cX11_judged 80 = .ok (.aload_n 0, 1) := by decide +kernel
theorem dX11_judged_81 : decode cX11_judged 81 = .ok (.getfield 68, 3) := by decide +kernel
theorem dX11_judged_84 : decode cX11_judged 84 = .ok (.getfield 215, 3) := by decide +kernel
theorem dX11_judged_87 : decode cX11_judged 87 = .ok (.ireturn, 1) := by decide +kernel
theorem dX11_judged_88 : decode cX11_judged 88 = .ok (.bipush (-2), 2) := by decide +kernel
theorem dX11_judged_90 : decode cX11_judged 90 = .ok (.ireturn, 1) := by decide +kernel
theorem dX11_then_0 : decode cX11_then 0 = .ok (.aload_n 0, 1) := by decide +kernel
theorem dX11_then_1 : decode cX11_then 1 = .ok (.getfield 68, 3) := by decide +kernel
theorem dX11_then_4 : decode cX11_then 4 = .ok (.aload_n 0, 1) := by decide +kernel
theorem dX11_then_5 : decode cX11_then 5 = .ok (.getfield 33, 3) := by decide +kernel
theorem dX11_then_8 : decode cX11_then 8 = .ok (.ldc2_w 199, 3) := by decide +kernel
theorem dX11_then_11 : decode cX11_then 11 = .ok (.invokevirtual 201, 3) := by decide +kernel
theorem dX11_then_14 : decode cX11_then 14 = .ok (.iload_n 1, 1) := by decide +kernel
theorem dX11_then_15 : decode cX11_then 15 = .ok (.ifCond .lt 20, 3) := by decide +kernel
theorem dX11_then_18 : decode cX11_then 18 = .ok (.iload_n 1, 1) := by decide +kernel
theorem dX11_then_19 : decode cX11_then 19 = .ok (.aload_n 0, 1) := by decide +kernel
theorem dX11_then_20 : decode cX11_then 20 = .ok (.getfield 68, 3) := by decide +kernel
theorem dX11_then_23 : decode cX11_then 23 = .ok (.getfield 218, 3) := by decide +kernel
theorem dX11_then_26 : decode cX11_then 26 = .ok (.if_icmp .ge 9, 3) := by decide +kernel
theorem dX11_then_29 : decode cX11_then 29 = .ok (.iload_n 1, 1) := by decide +kernel
theorem dX11_then_30 : decode cX11_then 30 = .ok (.bipush 60, 2) := by decide +kernel
theorem dX11_then_32 : decode cX11_then 32 = .ok (.if_icmp .lt 6, 3) := by decide +kernel
theorem dX11_then_35 : decode cX11_then 35 = .ok (.bipush (-2), 2) := by decide +kernel
theorem dX11_then_37 : decode cX11_then 37 = .ok (.ireturn, 1) := by decide +kernel
theorem dX11_then_38 : decode cX11_then 38 = .ok (.iload_n 2, 1) := by decide +kernel
theorem dX11_then_39 : decode cX11_then 39 = .ok (.ifCond .ne 13, 3) := by decide +kernel
theorem dX11_then_42 : decode cX11_then 42 = .ok (.aload_n 0, 1) := by decide +kernel
theorem dX11_then_43 : decode cX11_then 43 = .ok (.getfield 68, 3) := by decide +kernel
theorem dX11_then_46 : decode cX11_then 46 = .ok (.getfield 221, 3) := by decide +kernel
theorem dX11_then_49 : decode cX11_then 49 = .ok (.iload_n 1, 1) := by decide +kernel
theorem dX11_then_50 : decode cX11_then 50 = .ok (.iaload, 1) := by decide +kernel
theorem dX11_then_51 : decode cX11_then 51 = .ok (.ireturn, 1) := by decide +kernel
theorem dX11_then_52 : decode cX11_then 52 = .ok (.iload_n 2, 1) := by decide +kernel
theorem dX11_then_53 : decode cX11_then 53 = .ok (.iconst 1, 1) := by decide +kernel
theorem dX11_then_54 : decode cX11_then 54 = .ok (.if_icmp .ne 15, 3) := by decide +kernel
theorem dX11_then_57 : decode cX11_then 57 = .ok (.aload_n 0, 1) := by decide +kernel
theorem dX11_then_58 : decode cX11_then 58 = .ok (.getfield 68, 3) := by decide +kernel
theorem dX11_then_61 : decode cX11_then 61 = .ok (.getfield 224, 3) := by decide +kernel
theorem dX11_then_64 : decode cX11_then 64 = .ok (.iload_n 1, 1) := by decide +kernel
theorem dX11_then_65 : decode cX11_then 65 = .ok (.iaload, 1) := by decide +kernel
theorem dX11_then_66 : decode cX11_then 66 = .ok (.goto 5, 3) := by decide +kernel
theorem dX11_then_69 : decode cX11_then 69 = .ok (.bipush (-2), 2) := by decide +kernel
theorem dX11_then_71 : decode cX11_then 71 = .ok (.ireturn, 1) := by decide +kernel
theorem dX11_readyPlans_0 : decode cX11_readyPlans 0 = .ok (.aload_n 0, 1) := by decide +kernel
theorem dX11_readyPlans_1 : decode cX11_readyPlans 1 = .ok (.getfield 75, 3) := by decide +kernel
theorem dX11_readyPlans_4 : decode cX11_readyPlans 4 = .ok (.invokevirtual 227, 3) := by decide +kernel
theorem dX11_readyPlans_7 : decode cX11_readyPlans 7 = .ok (.aload_n 0, 1) := by decide +kernel
theorem dX11_readyPlans_8 : decode cX11_readyPlans 8 = .ok (.getfield 75, 3) := by decide +kernel
theorem dX11_readyPlans_11 : decode cX11_readyPlans 11 = .ok (.areturn, 1) := by decide +kernel
theorem dX11_orLacking_0 : decode cX11_orLacking 0 = .ok (.iload_n 0, 1) := by decide +kernel
theorem dX11_orLacking_1 : decode cX11_orLacking 1 = .ok (.ifCond .ge 8, 3) := by decide +kernel
theorem dX11_orLacking_4 : decode cX11_orLacking 4 = .ok (.bipush (-2), 2) := by decide +kernel
theorem dX11_orLacking_6 : decode cX11_orLacking 6 = .ok (.goto 4, 3) := by decide +kernel
theorem dX11_orLacking_9 : decode cX11_orLacking 9 = .ok (.iload_n 0, 1) := by decide +kernel
theorem dX11_orLacking_10 : decode cX11_orLacking 10 = .ok (.ireturn, 1) := by decide +kernel
theorem dX11_soon_0 : decode cX11_soon 0 = .ok (.aload_n 0, 1) := by decide +kernel
theorem dX11_soon_1 : decode cX11_soon 1 = .ok (.invokevirtual 230, 3) := by decide +kernel
theorem dX11_soon_4 : decode cX11_soon 4 = .ok (.invokevirtual 234, 3) := by decide +kernel
theorem dX11_soon_7 : decode cX11_soon 7 = .ok (.ireturn, 1) := by decide +kernel
theorem dX11_best_0 : decode cX11_best 0 = .ok (.aload_n 0, 1) := by decide +kernel
theorem dX11_best_1 : decode cX11_best 1 = .ok (.invokevirtual 230, 3) := by decide +kernel
theorem dX11_best_4 : decode cX11_best 4 = .ok (.astore_n 2, 1) := by decide +kernel
theorem dX11_best_5 : decode cX11_best 5 = .ok (.iload_n 1, 1) := by decide +kernel
theorem dX11_best_6 : decode cX11_best 6 = .ok (.iconst 3, 1) := by decide +kernel
theorem dX11_best_7 : decode cX11_best 7 = .ok (.if_icmp .ne 8, 3) := by decide +kernel
theorem dX11_best_10 : decode cX11_best 10 = .ok (.aload_n 2, 1) := by decide +kernel
theorem dX11_best_11 : decode cX11_best 11 = .ok (.getfield 238, 3) := by decide +kernel
theorem dX11_best_14 : decode cX11_best 14 = .ok (.ireturn, 1) := by decide +kernel
theorem dX11_best_15 : decode cX11_best 15 = .ok (.iload_n 1, 1) := by decide +kernel
theorem dX11_best_16 : decode cX11_best 16 = .ok (.iconst 4, 1) := by decide +kernel
theorem dX11_best_17 : decode cX11_best 17 = .ok (.if_icmp .ne 18, 3) := by decide +kernel
theorem dX11_best_20 : decode cX11_best 20 = .ok (.aload_n 0, 1) := by decide +kernel
theorem dX11_best_21 : decode cX11_best 21 = .ok (.getfield 23, 3) := by decide +kernel
theorem dX11_best_24 : decode cX11_best 24 = .ok (.getfield 112, 3) := by decide +kernel
theorem dX11_best_27 : decode cX11_best 27 = .ok (.aload_n 2, 1) := by decide +kernel
theorem dX11_best_28 : decode cX11_best 28 = .ok (.getfield 241, 3) := by decide +kernel
theorem dX11_best_31 : decode cX11_best 31 = .ok (.iconst (-1), 1) := by decide +kernel
theorem dX11_best_32 : decode cX11_best 32 = .ok (.ixor, 1) := by decide +kernel
theorem dX11_best_33 : decode cX11_best 33 = .ok (.iand, 1) := by decide +kernel
theorem dX11_best_34 : decode cX11_best 34 = .ok (.ireturn, 1) := by decide +kernel
theorem dX11_best_35 : decode cX11_best 35 = .ok (.iload_n 1, 1) := by decide +kernel
theorem dX11_best_36 : decode cX11_best 36 = .ok (.ifCond .lt 8, 3) := by decide +kernel
theorem dX11_best_39 : decode cX11_best 39 = .ok (.iload_n 1, 1) := by decide +kernel
theorem dX11_best_40 : decode cX11_best 40 = .ok (.iconst 5, 1) := by decide +kernel
theorem dX11_best_41 : decode cX11_best 41 = .ok (.if_icmp .le 6, 3) := by decide +kernel
theorem dX11_best_44 : decode cX11_best 44 = .ok (.bipush (-3), 2) := by decide +kernel
theorem dX11_best_46 : decode cX11_best 46 = .ok (.ireturn, 1) := by decide +kernel
theorem dX11_best_47 : decode cX11_best 47 = .ok (.aload_n 2, 1) := by decide +kernel
theorem dX11_best_48 : decode cX11_best 48 = .ok (.getfield 244, 3) := by decide +kernel
theorem dX11_best_51 : decode cX11_best 51 = .ok (.ifCond .ge 6, 3) := by decide +kernel
theorem dX11_best_54 : decode cX11_best 54 = .ok (.bipush (-2), 2) := by decide +kernel
theorem dX11_best_56 : decode cX11_best 56 = .ok (.ireturn, 1) := by decide +kernel
theorem dX11_best_57 : decode cX11_best 57 = .ok (.iload_n 1, 1) := by decide +kernel
set_option maxRecDepth 20000 in
theorem dX11_best_58 : decode cX11_best 58 = .ok (.tableswitch 41 0 2 #[26, 31, 36], 26) := by decide +kernel
theorem dX11_best_84 : decode cX11_best 84 = .ok (.aload_n 2, 1) := by decide +kernel
theorem dX11_best_85 : decode cX11_best 85 = .ok (.getfield 244, 3) := by decide +kernel
theorem dX11_best_88 : decode cX11_best 88 = .ok (.ireturn, 1) := by decide +kernel
theorem dX11_best_89 : decode cX11_best 89 = .ok (.aload_n 2, 1) := by decide +kernel
theorem dX11_best_90 : decode cX11_best 90 = .ok (.getfield 247, 3) := by decide +kernel
theorem dX11_best_93 : decode cX11_best 93 = .ok (.ireturn, 1) := by decide +kernel
theorem dX11_best_94 : decode cX11_best 94 = .ok (.aload_n 2, 1) := by decide +kernel
theorem dX11_best_95 : decode cX11_best 95 = .ok (.invokevirtual 250, 3) := by decide +kernel
theorem dX11_best_98 : decode cX11_best 98 = .ok (.ireturn, 1) := by decide +kernel
theorem dX11_best_99 : decode cX11_best 99 = .ok (.aload_n 0, 1) := by decide +kernel
theorem dX11_best_100 : decode cX11_best 100 = .ok (.getfield 23, 3) := by decide +kernel
theorem dX11_best_103 : decode cX11_best 103 = .ok (.getfield 112, 3) := by decide +kernel
theorem dX11_best_106 : decode cX11_best 106 = .ok (.aload_n 2, 1) := by decide +kernel
theorem dX11_best_107 : decode cX11_best 107 = .ok (.getfield 247, 3) := by decide +kernel
theorem dX11_best_110 : decode cX11_best 110 = .ok (.iconst (-1), 1) := by decide +kernel
theorem dX11_best_111 : decode cX11_best 111 = .ok (.ixor, 1) := by decide +kernel
theorem dX11_best_112 : decode cX11_best 112 = .ok (.iand, 1) := by decide +kernel
theorem dX11_best_113 : decode cX11_best 113 = .ok (.ireturn, 1) := by decide +kernel
theorem dX11_fetched_0 : decode cX11_fetched 0 = .ok (.aload_n 0, 1) := by decide +kernel
theorem dX11_fetched_1 : decode cX11_fetched 1 = .ok (.getfield 23, 3) := by decide +kernel
theorem dX11_fetched_4 : decode cX11_fetched 4 = .ok (.iload_n 1, 1) := by decide +kernel
theorem dX11_fetched_5 : decode cX11_fetched 5 = .ok (.invokevirtual 128, 3) := by decide +kernel
theorem dX11_fetched_8 : decode cX11_fetched 8 = .ok (.ifCond .ne 6, 3) := by decide +kernel
theorem dX11_fetched_11 : decode cX11_fetched 11 = .ok (.bipush (-3), 2) := by decide +kernel
theorem dX11_fetched_13 : decode cX11_fetched 13 = .ok (.ireturn, 1) := by decide +kernel
theorem dX11_fetched_14 : decode cX11_fetched 14 = .ok (.aload_n 0, 1) := by decide +kernel
theorem dX11_fetched_15 : decode cX11_fetched 15 = .ok (.invokevirtual 230, 3) := by decide +kernel
theorem dX11_fetched_18 : decode cX11_fetched 18 = .ok (.astore_n 2, 1) := by decide +kernel
theorem dX11_fetched_19 : decode cX11_fetched 19 = .ok (.aload_n 2, 1) := by decide +kernel
theorem dX11_fetched_20 : decode cX11_fetched 20 = .ok (.getfield 244, 3) := by decide +kernel
theorem dX11_fetched_23 : decode cX11_fetched 23 = .ok (.ifCond .ge 8, 3) := by decide +kernel
theorem dX11_fetched_26 : decode cX11_fetched 26 = .ok (.bipush (-2), 2) := by decide +kernel
theorem dX11_fetched_28 : decode cX11_fetched 28 = .ok (.goto 9, 3) := by decide +kernel
theorem dX11_fetched_31 : decode cX11_fetched 31 = .ok (.aload_n 2, 1) := by decide +kernel
theorem dX11_fetched_32 : decode cX11_fetched 32 = .ok (.getfield 253, 3) := by decide +kernel
theorem dX11_fetched_35 : decode cX11_fetched 35 = .ok (.iload_n 1, 1) := by decide +kernel
theorem dX11_fetched_36 : decode cX11_fetched 36 = .ok (.iaload, 1) := by decide +kernel
theorem dX11_fetched_37 : decode cX11_fetched 37 = .ok (.ireturn, 1) := by decide +kernel
theorem dX11_hangs_0 : decode cX11_hangs 0 = .ok (.aload_n 0, 1) := by decide +kernel
theorem dX11_hangs_1 : decode cX11_hangs 1 = .ok (.getfield 23, 3) := by decide +kernel
theorem dX11_hangs_4 : decode cX11_hangs 4 = .ok (.iload_n 1, 1) := by decide +kernel
theorem dX11_hangs_5 : decode cX11_hangs 5 = .ok (.invokevirtual 128, 3) := by decide +kernel
theorem dX11_hangs_8 : decode cX11_hangs 8 = .ok (.ifCond .ne 5, 3) := by decide +kernel
theorem dX11_hangs_11 : decode cX11_hangs 11 = .ok (.iconst (-1), 1) := by decide +kernel
theorem dX11_hangs_12 : decode cX11_hangs 12 = .ok (.ireturn, 1) := by decide +kernel
theorem dX11_hangs_13 : decode cX11_hangs 13 = .ok (.aload_n 0, 1) := by decide +kernel
theorem dX11_hangs_14 : decode cX11_hangs 14 = .ok (.invokevirtual 230, 3) := by decide +kernel
theorem dX11_hangs_17 : decode cX11_hangs 17 = .ok (.astore_n 2, 1) := by decide +kernel
theorem dX11_hangs_18 : decode cX11_hangs 18 = .ok (.aload_n 2, 1) := by decide +kernel
theorem dX11_hangs_19 : decode cX11_hangs 19 = .ok (.getfield 244, 3) := by decide +kernel
theorem dX11_hangs_22 : decode cX11_hangs 22 = .ok (.ifCond .ge 8, 3) := by decide +kernel
theorem dX11_hangs_25 : decode cX11_hangs 25 = .ok (.bipush (-2), 2) := by decide +kernel
theorem dX11_hangs_27 : decode cX11_hangs 27 = .ok (.goto 8, 3) := by decide +kernel
theorem dX11_hangs_30 : decode cX11_hangs 30 = .ok (.aload_n 2, 1) := by decide +kernel
theorem dX11_hangs_31 : decode cX11_hangs 31 = .ok (.iload_n 1, 1) := by decide +kernel
theorem dX11_hangs_32 : decode cX11_hangs 32 = .ok (.invokevirtual 256, 3) := by decide +kernel
theorem dX11_hangs_35 : decode cX11_hangs 35 = .ok (.ireturn, 1) := by decide +kernel
theorem dX11_key_0 : decode cX11_key 0 = .ok (.aload_n 0, 1) := by decide +kernel
theorem dX11_key_1 : decode cX11_key 1 = .ok (.invokevirtual 230, 3) := by decide +kernel
theorem dX11_key_4 : decode cX11_key 4 = .ok (.astore_n 1, 1) := by decide +kernel
theorem dX11_key_5 : decode cX11_key 5 = .ok (.aload_n 1, 1) := by decide +kernel
theorem dX11_key_6 : decode cX11_key 6 = .ok (.getfield 244, 3) := by decide +kernel
theorem dX11_key_9 : decode cX11_key 9 = .ok (.ifCond .lt 13, 3) := by decide +kernel
theorem dX11_key_12 : decode cX11_key 12 = .ok (.aload_n 0, 1) := by decide +kernel
theorem dX11_key_13 : decode cX11_key 13 = .ok (.getfield 23, 3) := by decide +kernel
theorem dX11_key_16 : decode cX11_key 16 = .ok (.getfield 112, 3) := by decide +kernel
theorem dX11_key_19 : decode cX11_key 19 = .ok (.ifCond .ne 8, 3) := by decide +kernel
theorem dX11_key_22 : decode cX11_key 22 = .ok (.bipush (-2), 2) := by decide +kernel
theorem dX11_key_24 : decode cX11_key 24 = .ok (.goto 7, 3) := by decide +kernel
theorem dX11_key_27 : decode cX11_key 27 = .ok (.aload_n 1, 1) := by decide +kernel
theorem dX11_key_28 : decode cX11_key 28 = .ok (.invokevirtual 259, 3) := by decide +kernel
theorem dX11_key_31 : decode cX11_key 31 = .ok (.ireturn, 1) := by decide +kernel
theorem dX11_wise_0 : decode cX11_wise 0 = .ok (.aload_n 0, 1) := by decide +kernel
theorem dX11_wise_1 : decode cX11_wise 1 = .ok (.getfield 23, 3) := by decide +kernel
theorem dX11_wise_4 : decode cX11_wise 4 = .ok (.iload_n 1, 1) := by decide +kernel
theorem dX11_wise_5 : decode cX11_wise 5 = .ok (.invokevirtual 128, 3) := by decide +kernel
theorem dX11_wise_8 : decode cX11_wise 8 = .ok (.ifCond .ne 7, 3) := by decide +kernel
theorem dX11_wise_11 : decode cX11_wise 11 = .ok (.ldc_w 262, 3) := by decide +kernel
theorem dX11_wise_14 : decode cX11_wise 14 = .ok (.ireturn, 1) := by decide +kernel
theorem dX11_wise_15 : decode cX11_wise 15 = .ok (.aload_n 0, 1) := by decide +kernel
theorem dX11_wise_16 : decode cX11_wise 16 = .ok (.invokevirtual 230, 3) := by decide +kernel
theorem dX11_wise_19 : decode cX11_wise 19 = .ok (.astore_n 2, 1) := by decide +kernel
theorem dX11_wise_20 : decode cX11_wise 20 = .ok (.aload_n 2, 1) := by decide +kernel
theorem dX11_wise_21 : decode cX11_wise 21 = .ok (.iload_n 1, 1) := by decide +kernel
theorem dX11_wise_22 : decode cX11_wise 22 = .ok (.invokevirtual 263, 3) := by decide +kernel
theorem dX11_wise_25 : decode cX11_wise 25 = .ok (.istore_n 3, 1) := by decide +kernel
theorem dX11_wise_26 : decode cX11_wise 26 = .ok (.aload_n 2, 1) := by decide +kernel
theorem dX11_wise_27 : decode cX11_wise 27 = .ok (.getfield 244, 3) := by decide +kernel
theorem dX11_wise_30 : decode cX11_wise 30 = .ok (.ifCond .lt 7, 3) := by decide +kernel
theorem dX11_wise_33 : decode cX11_wise 33 = .ok (.iload_n 3, 1) := by decide +kernel
theorem dX11_wise_34 : decode cX11_wise 34 = .ok (.ifCond .ge 9, 3) := by decide +kernel
theorem dX11_wise_37 : decode cX11_wise 37 = .ok (.ldc_w 266, 3) := by decide +kernel
theorem dX11_wise_40 : decode cX11_wise 40 = .ok (.goto 9, 3) := by decide +kernel
theorem dX11_wise_43 : decode cX11_wise 43 = .ok (.aload_n 2, 1) := by decide +kernel
theorem dX11_wise_44 : decode cX11_wise 44 = .ok (.getfield 244, 3) := by decide +kernel
theorem dX11_wise_47 : decode cX11_wise 47 = .ok (.iload_n 3, 1) := by decide +kernel
theorem dX11_wise_48 : decode cX11_wise 48 = .ok (.isub, 1) := by decide +kernel
theorem dX11_wise_49 : decode cX11_wise 49 = .ok (.ireturn, 1) := by decide +kernel
theorem dX11_borrowed_0 : decode cX11_borrowed 0 = .ok (.iload_n 1, 1) := by decide +kernel
theorem dX11_borrowed_1 : decode cX11_borrowed 1 = .ok (.ifCond .lt 14, 3) := by decide +kernel
theorem dX11_borrowed_4 : decode cX11_borrowed 4 = .ok (.iload_n 1, 1) := by decide +kernel
theorem dX11_borrowed_5 : decode cX11_borrowed 5 = .ok (.aload_n 0, 1) := by decide +kernel
theorem dX11_borrowed_6 : decode cX11_borrowed 6 = .ok (.getfield 23, 3) := by decide +kernel
theorem dX11_borrowed_9 : decode cX11_borrowed 9 = .ok (.getfield 150, 3) := by decide +kernel
theorem dX11_borrowed_12 : decode cX11_borrowed 12 = .ok (.if_icmp .lt 5, 3) := by decide +kernel
theorem dX11_borrowed_15 : decode cX11_borrowed 15 = .ok (.iconst (-1), 1) := by decide +kernel
theorem dX11_borrowed_16 : decode cX11_borrowed 16 = .ok (.ireturn, 1) := by decide +kernel
theorem dX11_borrowed_17 : decode cX11_borrowed 17 = .ok (.aload_n 0, 1) := by decide +kernel
theorem dX11_borrowed_18 : decode cX11_borrowed 18 = .ok (.invokevirtual 230, 3) := by decide +kernel
theorem dX11_borrowed_21 : decode cX11_borrowed 21 = .ok (.iload_n 1, 1) := by decide +kernel
theorem dX11_borrowed_22 : decode cX11_borrowed 22 = .ok (.invokevirtual 267, 3) := by decide +kernel
theorem dX11_borrowed_25 : decode cX11_borrowed 25 = .ok (.invokestatic 270, 3) := by decide +kernel
theorem dX11_borrowed_28 : decode cX11_borrowed 28 = .ok (.ireturn, 1) := by decide +kernel
theorem dX11_when_0 : decode cX11_when 0 = .ok (.aload_n 0, 1) := by decide +kernel
theorem dX11_when_1 : decode cX11_when 1 = .ok (.invokevirtual 230, 3) := by decide +kernel
theorem dX11_when_4 : decode cX11_when 4 = .ok (.invokevirtual 273, 3) := by decide +kernel
theorem dX11_when_7 : decode cX11_when 7 = .ok (.invokestatic 270, 3) := by decide +kernel
theorem dX11_when_10 : decode cX11_when 10 = .ok (.ireturn, 1) := by decide +kernel
theorem dX11_sold_0 : decode cX11_sold 0 = .ok (.aload_n 0, 1) := by decide +kernel
theorem dX11_sold_1 : decode cX11_sold 1 = .ok (.getfield 23, 3) := by decide +kernel
theorem dX11_sold_4 : decode cX11_sold 4 = .ok (.iload_n 1, 1) := by decide +kernel
theorem dX11_sold_5 : decode cX11_sold 5 = .ok (.invokevirtual 128, 3) := by decide +kernel
theorem dX11_sold_8 : decode cX11_sold 8 = .ok (.ifCond .eq 18, 3) := by decide +kernel
theorem dX11_sold_11 : decode cX11_sold 11 = .ok (.iload_n 2, 1) := by decide +kernel
theorem dX11_sold_12 : decode cX11_sold 12 = .ok (.ifCond .lt 14, 3) := by decide +kernel
theorem dX11_sold_15 : decode cX11_sold 15 = .ok (.iload_n 2, 1) := by decide +kernel
theorem dX11_sold_16 : decode cX11_sold 16 = .ok (.aload_n 0, 1) := by decide +kernel
theorem dX11_sold_17 : decode cX11_sold 17 = .ok (.getfield 23, 3) := by decide +kernel
theorem dX11_sold_20 : decode cX11_sold 20 = .ok (.getfield 150, 3) := by decide +kernel
theorem dX11_sold_23 : decode cX11_sold 23 = .ok (.if_icmp .lt 5, 3) := by decide +kernel
theorem dX11_sold_26 : decode cX11_sold 26 = .ok (.iconst (-1), 1) := by decide +kernel
theorem dX11_sold_27 : decode cX11_sold 27 = .ok (.ireturn, 1) := by decide +kernel
theorem dX11_sold_28 : decode cX11_sold 28 = .ok (.aload_n 0, 1) := by decide +kernel
theorem dX11_sold_29 : decode cX11_sold 29 = .ok (.invokevirtual 230, 3) := by decide +kernel
theorem dX11_sold_32 : decode cX11_sold 32 = .ok (.iload_n 1, 1) := by decide +kernel
theorem dX11_sold_33 : decode cX11_sold 33 = .ok (.iload_n 2, 1) := by decide +kernel
theorem dX11_sold_34 : decode cX11_sold 34 = .ok (.invokevirtual 276, 3) := by decide +kernel
theorem dX11_sold_37 : decode cX11_sold 37 = .ok (.invokestatic 270, 3) := by decide +kernel
theorem dX11_sold_40 : decode cX11_sold 40 = .ok (.ireturn, 1) := by decide +kernel
theorem dX11_selling_0 : decode cX11_selling 0 = .ok (.aload_n 0, 1) := by decide +kernel
theorem dX11_selling_1 : decode cX11_selling 1 = .ok (.getfield 23, 3) := by decide +kernel
theorem dX11_selling_4 : decode cX11_selling 4 = .ok (.iload_n 1, 1) := by decide +kernel
theorem dX11_selling_5 : decode cX11_selling 5 = .ok (.invokevirtual 128, 3) := by decide +kernel
theorem dX11_selling_8 : decode cX11_selling 8 = .ok (.ifCond .ne 5, 3) := by decide +kernel
theorem dX11_selling_11 : decode cX11_selling 11 = .ok (.iconst (-1), 1) := by decide +kernel
theorem dX11_selling_12 : decode cX11_selling 12 = .ok (.ireturn, 1) := by decide +kernel
theorem dX11_selling_13 : decode cX11_selling 13 = .ok (.aload_n 0, 1) := by decide +kernel
theorem dX11_selling_14 : decode cX11_selling 14 = .ok (.invokevirtual 230, 3) := by decide +kernel
theorem dX11_selling_17 : decode cX11_selling 17 = .ok (.iload_n 1, 1) := by decide +kernel
theorem dX11_selling_18 : decode cX11_selling 18 = .ok (.invokevirtual 279, 3) := by decide +kernel
theorem dX11_selling_21 : decode cX11_selling 21 = .ok (.invokestatic 270, 3) := by decide +kernel
theorem dX11_selling_24 : decode cX11_selling 24 = .ok (.ireturn, 1) := by decide +kernel
theorem dX11_likes_0 : decode cX11_likes 0 = .ok (.aload_n 0, 1) := by decide +kernel
theorem dX11_likes_1 : decode cX11_likes 1 = .ok (.iload_n 1, 1) := by decide +kernel
theorem dX11_likes_2 : decode cX11_likes 2 = .ok (.invokevirtual 282, 3) := by decide +kernel
theorem dX11_likes_5 : decode cX11_likes 5 = .ok (.ifCond .eq 30, 3) := by decide +kernel
theorem dX11_likes_8 : decode cX11_likes 8 = .ok (.aload_n 0, 1) := by decide +kernel
theorem dX11_likes_9 : decode cX11_likes 9 = .ok (.getfield 23, 3) := by decide +kernel
theorem dX11_likes_12 : decode cX11_likes 12 = .ok (.iload_n 2, 1) := by decide +kernel
theorem dX11_likes_13 : decode cX11_likes 13 = .ok (.invokevirtual 128, 3) := by decide +kernel
theorem dX11_likes_16 : decode cX11_likes 16 = .ok (.ifCond .eq 19, 3) := by decide +kernel
theorem dX11_likes_19 : decode cX11_likes 19 = .ok (.aload_n 0, 1) := by decide +kernel
theorem dX11_likes_20 : decode cX11_likes 20 = .ok (.getfield 23, 3) := by decide +kernel
theorem dX11_likes_23 : decode cX11_likes 23 = .ok (.iload 4, 2) := by decide +kernel
theorem dX11_likes_25 : decode cX11_likes 25 = .ok (.invokevirtual 182, 3) := by decide +kernel
theorem dX11_likes_28 : decode cX11_likes 28 = .ok (.ifCond .eq 7, 3) := by decide +kernel
theorem dX11_likes_31 : decode cX11_likes 31 = .ok (.iconst 1, 1) := by decide +kernel
theorem dX11_likes_32 : decode cX11_likes 32 = .ok (.goto 4, 3) := by decide +kernel
theorem dX11_likes_35 : decode cX11_likes 35 = .ok (.iconst 0, 1) := by decide +kernel
theorem dX11_likes_36 : decode cX11_likes 36 = .ok (.istore 6, 2) := by decide +kernel
theorem dX11_likes_38 : decode cX11_likes 38 = .ok (.iload 6, 2) := by decide +kernel
theorem dX11_likes_40 : decode cX11_likes 40 = .ok (.ifCond .eq 31, 3) := by decide +kernel
theorem dX11_likes_43 : decode cX11_likes 43 = .ok (.iload_n 3, 1) := by decide +kernel
theorem dX11_likes_44 : decode cX11_likes 44 = .ok (.ifCond .lt 27, 3) := by decide +kernel
theorem dX11_likes_47 : decode cX11_likes 47 = .ok (.iload_n 3, 1) := by decide +kernel
theorem dX11_likes_48 : decode cX11_likes 48 = .ok (.aload_n 0, 1) := by decide +kernel
theorem dX11_likes_49 : decode cX11_likes 49 = .ok (.getfield 23, 3) := by decide +kernel
theorem dX11_likes_52 : decode cX11_likes 52 = .ok (.getfield 150, 3) := by decide +kernel
theorem dX11_likes_55 : decode cX11_likes 55 = .ok (.if_icmp .ge 16, 3) := by decide +kernel
theorem dX11_likes_58 : decode cX11_likes 58 = .ok (.iload 5, 2) := by decide +kernel
theorem dX11_likes_60 : decode cX11_likes 60 = .ok (.ifCond .lt 11, 3) := by decide +kernel
theorem dX11_likes_63 : decode cX11_likes 63 = .ok (.iload 5, 2) := by decide +kernel
theorem dX11_likes_65 : decode cX11_likes 65 = .ok (.ldc_w 285, 3) := by decide +kernel
theorem dX11_likes_68 : decode cX11_likes 68 = .ok (.if_icmp .le 5, 3) := by decide +kernel
theorem dX11_likes_71 : decode cX11_likes 71 = .ok (.lconst 0, 1) := by decide +kernel
theorem dX11_likes_72 : decode cX11_likes 72 = .ok (.lreturn, 1) := by decide +kernel
theorem dX11_likes_73 : decode cX11_likes 73 = .ok (.iload 4, 2) := by decide +kernel
theorem dX11_likes_75 : decode cX11_likes 75 = .ok (.iload_n 2, 1) := by decide +kernel
theorem dX11_likes_76 : decode cX11_likes 76 = .ok (.ishr, 1) := by decide +kernel
theorem dX11_likes_77 : decode cX11_likes 77 = .ok (.iconst 1, 1) := by decide +kernel
theorem dX11_likes_78 : decode cX11_likes 78 = .ok (.iand, 1) := by decide +kernel
theorem dX11_likes_79 : decode cX11_likes 79 = .ok (.ifCond .eq 5, 3) := by decide +kernel
theorem dX11_likes_82 : decode cX11_likes 82 = .ok (.lconst 0, 1) := by decide +kernel
theorem dX11_likes_83 : decode cX11_likes 83 = .ok (.lreturn, 1) := by decide +kernel
theorem dX11_likes_84 : decode cX11_likes 84 = .ok (.aload_n 0, 1) := by decide +kernel
theorem dX11_likes_85 : decode cX11_likes 85 = .ok (.getfield 68, 3) := by decide +kernel
theorem dX11_likes_88 : decode cX11_likes 88 = .ok (.invokevirtual 286, 3) := by decide +kernel
theorem dX11_likes_91 : decode cX11_likes 91 = .ok (.aload_n 0, 1) := by decide +kernel
theorem dX11_likes_92 : decode cX11_likes 92 = .ok (.getfield 68, 3) := by decide +kernel
theorem dX11_likes_95 : decode cX11_likes 95 = .ok (.iload 4, 2) := by decide +kernel
theorem dX11_likes_97 : decode cX11_likes 97 = .ok (.putfield 212, 3) := by decide +kernel
theorem dX11_likes_100 : decode cX11_likes 100 = .ok (.aload_n 0, 1) := by decide +kernel
theorem dX11_likes_101 : decode cX11_likes 101 = .ok (.getfield 68, 3) := by decide +kernel
theorem dX11_likes_104 : decode cX11_likes 104 = .ok (.iload 5, 2) := by decide +kernel
theorem dX11_likes_106 : decode cX11_likes 106 = .ok (.putfield 211, 3) := by decide +kernel
theorem dX11_likes_109 : decode cX11_likes 109 = .ok (.aload_n 0, 1) := by decide +kernel
theorem dX11_likes_110 : decode cX11_likes 110 = .ok (.getfield 68, 3) := by decide +kernel
theorem dX11_likes_113 : decode cX11_likes 113 = .ok (.aload_n 0, 1) := by decide +kernel
theorem dX11_likes_114 : decode cX11_likes 114 = .ok (.getfield 39, 3) := by decide +kernel
theorem dX11_likes_117 : decode cX11_likes 117 = .ok (.iload_n 1, 1) := by decide +kernel
theorem dX11_likes_118 : decode cX11_likes 118 = .ok (.aaload, 1) := by decide +kernel
theorem dX11_likes_119 : decode cX11_likes 119 = .ok (.iload_n 2, 1) := by decide +kernel
theorem dX11_likes_120 : decode cX11_likes 120 = .ok (.iload_n 3, 1) := by decide +kernel
theorem dX11_likes_121 : decode cX11_likes 121 = .ok (.invokevirtual 289, 3) := by decide +kernel
theorem dX11_likes_124 : decode cX11_likes 124 = .ok (.lreturn, 1) := by decide +kernel
theorem dX11_ruled_0 : decode cX11_ruled 0 = .ok (.aload_n 0, 1) := by decide +kernel
theorem dX11_ruled_1 : decode cX11_ruled 1 = .ok (.iload_n 1, 1) := by decide +kernel
theorem dX11_ruled_2 : decode cX11_ruled 2 = .ok (.invokevirtual 282, 3) := by decide +kernel
theorem dX11_ruled_5 : decode cX11_ruled 5 = .ok (.ifCond .eq 12, 3) := by decide +kernel
theorem dX11_ruled_8 : decode cX11_ruled 8 = .ok (.iload_n 2, 1) := by decide +kernel
theorem dX11_ruled_9 : decode cX11_ruled 9 = .ok (.ifCond .lt 8, 3) := by decide +kernel
theorem dX11_ruled_12 : decode cX11_ruled 12 = .ok (.iload_n 2, 1) := by decide +kernel
theorem dX11_ruled_13 : decode cX11_ruled 13 = .ok (.iconst 3, 1) := by decide +kernel
theorem dX11_ruled_14 : decode cX11_ruled 14 = .ok (.if_icmp .le 6, 3) := by decide +kernel
theorem dX11_ruled_17 : decode cX11_ruled 17 = .ok (.bipush (-2), 2) := by decide +kernel
theorem dX11_ruled_19 : decode cX11_ruled 19 = .ok (.ireturn, 1) := by decide +kernel
theorem dX11_ruled_20 : decode cX11_ruled 20 = .ok (.aload_n 0, 1) := by decide +kernel
theorem dX11_ruled_21 : decode cX11_ruled 21 = .ok (.getfield 68, 3) := by decide +kernel
theorem dX11_ruled_24 : decode cX11_ruled 24 = .ok (.aload_n 0, 1) := by decide +kernel
theorem dX11_ruled_25 : decode cX11_ruled 25 = .ok (.getfield 39, 3) := by decide +kernel
theorem dX11_ruled_28 : decode cX11_ruled 28 = .ok (.iload_n 1, 1) := by decide +kernel
theorem dX11_ruled_29 : decode cX11_ruled 29 = .ok (.aaload, 1) := by decide +kernel
theorem dX11_ruled_30 : decode cX11_ruled 30 = .ok (.ldc2_w 199, 3) := by decide +kernel
theorem dX11_ruled_33 : decode cX11_ruled 33 = .ok (.invokevirtual 293, 3) := by decide +kernel
theorem dX11_ruled_36 : decode cX11_ruled 36 = .ok (.iload_n 2, 1) := by decide +kernel
set_option maxRecDepth 20000 in
theorem dX11_ruled_37 : decode cX11_ruled 37 = .ok (.tableswitch 51 0 2 #[27, 35, 43], 27) := by decide +kernel
theorem dX11_ruled_64 : decode cX11_ruled 64 = .ok (.aload_n 0, 1) := by decide +kernel
theorem dX11_ruled_65 : decode cX11_ruled 65 = .ok (.getfield 68, 3) := by decide +kernel
theorem dX11_ruled_68 : decode cX11_ruled 68 = .ok (.getfield 211, 3) := by decide +kernel
theorem dX11_ruled_71 : decode cX11_ruled 71 = .ok (.ireturn, 1) := by decide +kernel
theorem dX11_ruled_72 : decode cX11_ruled 72 = .ok (.aload_n 0, 1) := by decide +kernel
theorem dX11_ruled_73 : decode cX11_ruled 73 = .ok (.getfield 68, 3) := by decide +kernel
theorem dX11_ruled_76 : decode cX11_ruled 76 = .ok (.getfield 212, 3) := by decide +kernel
theorem dX11_ruled_79 : decode cX11_ruled 79 = .ok (.ireturn, 1) := by decide +kernel
theorem dX11_ruled_80 : decode cX11_ruled 80 = .ok (.aload_n 0, 1) := by decide +kernel
theorem dX11_ruled_81 : decode cX11_ruled 81 = .ok (.getfield 68, 3) := by decide +kernel
theorem dX11_ruled_84 : decode cX11_ruled 84 = .ok (.getfield 208, 3) := by decide +kernel
theorem dX11_ruled_87 : decode cX11_ruled 87 = .ok (.ireturn, 1) := by decide +kernel
theorem dX11_ruled_88 : decode cX11_ruled 88 = .ok (.aload_n 0, 1) := by decide +kernel
theorem dX11_ruled_89 : decode cX11_ruled 89 = .ok (.invokevirtual 230, 3) := by decide +kernel
theorem dX11_ruled_92 : decode cX11_ruled 92 = .ok (.getfield 244, 3) := by decide +kernel
theorem dX11_ruled_95 : decode cX11_ruled 95 = .ok (.istore_n 3, 1) := by decide +kernel
theorem dX11_ruled_96 : decode cX11_ruled 96 = .ok (.aload_n 0, 1) := by decide +kernel
theorem dX11_ruled_97 : decode cX11_ruled 97 = .ok (.getfield 68, 3) := by decide +kernel
theorem dX11_ruled_100 : decode cX11_ruled 100 = .ok (.getfield 208, 3) := by decide +kernel
theorem dX11_ruled_103 : decode cX11_ruled 103 = .ok (.iconst (-1), 1) := by decide +kernel
theorem dX11_ruled_104 : decode cX11_ruled 104 = .ok (.if_icmp .ne 7, 3) := by decide +kernel
theorem dX11_ruled_107 : decode cX11_ruled 107 = .ok (.iload_n 3, 1) := by decide +kernel
theorem dX11_ruled_108 : decode cX11_ruled 108 = .ok (.ifCond .ge 9, 3) := by decide +kernel
theorem dX11_ruled_111 : decode cX11_ruled 111 = .ok (.ldc_w 266, 3) := by decide +kernel
theorem dX11_ruled_114 : decode cX11_ruled 114 = .ok (.goto 12, 3) := by decide +kernel
theorem dX11_ruled_117 : decode cX11_ruled 117 = .ok (.iload_n 3, 1) := by decide +kernel
theorem dX11_ruled_118 : decode cX11_ruled 118 = .ok (.aload_n 0, 1) := by decide +kernel
theorem dX11_ruled_119 : decode cX11_ruled 119 = .ok (.getfield 68, 3) := by decide +kernel
theorem dX11_ruled_122 : decode cX11_ruled 122 = .ok (.getfield 211, 3) := by decide +kernel
theorem dX11_ruled_125 : decode cX11_ruled 125 = .ok (.isub, 1) := by decide +kernel
theorem dX11_ruled_126 : decode cX11_ruled 126 = .ok (.ireturn, 1) := by decide +kernel
theorem dX11_finest_0 : decode cX11_finest 0 = .ok (.bipush (-2), 2) := by decide +kernel
theorem dX11_finest_2 : decode cX11_finest 2 = .ok (.istore_n 1, 1) := by decide +kernel
theorem dX11_finest_3 : decode cX11_finest 3 = .ok (.iconst (-1), 1) := by decide +kernel
theorem dX11_finest_4 : decode cX11_finest 4 = .ok (.istore_n 2, 1) := by decide +kernel
theorem dX11_finest_5 : decode cX11_finest 5 = .ok (.iconst 0, 1) := by decide +kernel
theorem dX11_finest_6 : decode cX11_finest 6 = .ok (.istore_n 3, 1) := by decide +kernel
theorem dX11_finest_7 : decode cX11_finest 7 = .ok (.iload_n 3, 1) := by decide +kernel
theorem dX11_finest_8 : decode cX11_finest 8 = .ok (.aload_n 0, 1) := by decide +kernel
theorem dX11_finest_9 : decode cX11_finest 9 = .ok (.getfield 121, 3) := by decide +kernel
theorem dX11_finest_12 : decode cX11_finest 12 = .ok (.if_icmp .ge 63, 3) := by decide +kernel
theorem dX11_finest_15 : decode cX11_finest 15 = .ok (.iload_n 3, 1) := by decide +kernel
theorem dX11_finest_16 : decode cX11_finest 16 = .ok (.bipush 6, 2) := by decide +kernel
theorem dX11_finest_18 : decode cX11_finest 18 = .ok (.if_icmp .ge 57, 3) := by decide +kernel
theorem dX11_finest_21 : decode cX11_finest 21 = .ok (.aload_n 0, 1) := by decide +kernel
theorem dX11_finest_22 : decode cX11_finest 22 = .ok (.getfield 68, 3) := by decide +kernel
theorem dX11_finest_25 : decode cX11_finest 25 = .ok (.aload_n 0, 1) := by decide +kernel
theorem dX11_finest_26 : decode cX11_finest 26 = .ok (.getfield 39, 3) := by decide +kernel
theorem dX11_finest_29 : decode cX11_finest 29 = .ok (.iload_n 3, 1) := by decide +kernel
theorem dX11_finest_30 : decode cX11_finest 30 = .ok (.aaload, 1) := by decide +kernel
theorem dX11_finest_31 : decode cX11_finest 31 = .ok (.ldc2_w 199, 3) := by decide +kernel
theorem dX11_finest_34 : decode cX11_finest 34 = .ok (.invokevirtual 293, 3) := by decide +kernel
theorem dX11_finest_37 : decode cX11_finest 37 = .ok (.aload_n 0, 1) := by decide +kernel
theorem dX11_finest_38 : decode cX11_finest 38 = .ok (.getfield 68, 3) := by decide +kernel
theorem dX11_finest_41 : decode cX11_finest 41 = .ok (.getfield 208, 3) := by decide +kernel
theorem dX11_finest_44 : decode cX11_finest 44 = .ok (.iconst (-1), 1) := by decide +kernel
theorem dX11_finest_45 : decode cX11_finest 45 = .ok (.if_icmp .ne 24, 3) := by decide +kernel
theorem dX11_finest_48 : decode cX11_finest 48 = .ok (.aload_n 0, 1) := by decide +kernel
theorem dX11_finest_49 : decode cX11_finest 49 = .ok (.getfield 68, 3) := by decide +kernel
theorem dX11_finest_52 : decode cX11_finest 52 = .ok (.getfield 211, 3) := by decide +kernel
theorem dX11_finest_55 : decode cX11_finest 55 = .ok (.iload_n 2, 1) := by decide +kernel
theorem dX11_finest_56 : decode cX11_finest 56 = .ok (.if_icmp .le 13, 3) := by decide +kernel
theorem dX11_finest_59 : decode cX11_finest 59 = .ok (.aload_n 0, 1) := by decide +kernel
theorem dX11_finest_60 : decode cX11_finest 60 = .ok (.getfield 68, 3) := by decide +kernel
theorem dX11_finest_63 : decode cX11_finest 63 = .ok (.getfield 211, 3) := by decide +kernel
theorem dX11_finest_66 : decode cX11_finest 66 = .ok (.istore_n 2, 1) := by decide +kernel
theorem dX11_finest_67 : decode cX11_finest 67 = .ok (.iload_n 3, 1) := by decide +kernel
theorem dX11_finest_68 : decode cX11_finest 68 = .ok (.istore_n 1, 1) := by decide +kernel
theorem dX11_finest_69 : decode cX11_finest 69 = .ok (.iinc 3 1, 3) := by decide +kernel
theorem dX11_finest_72 : decode cX11_finest 72 = .ok (.goto (-65), 3) := by decide +kernel
theorem dX11_finest_75 : decode cX11_finest 75 = .ok (.iload_n 1, 1) := by decide +kernel
theorem dX11_finest_76 : decode cX11_finest 76 = .ok (.ireturn, 1) := by decide +kernel
theorem dX11_parts_0 : decode cX11_parts 0 = .ok (.aload_n 0, 1) := by decide +kernel
theorem dX11_parts_1 : decode cX11_parts 1 = .ok (.iload_n 1, 1) := by decide +kernel
theorem dX11_parts_2 : decode cX11_parts 2 = .ok (.invokevirtual 282, 3) := by decide +kernel
theorem dX11_parts_5 : decode cX11_parts 5 = .ok (.ifCond .eq 16, 3) := by decide +kernel
theorem dX11_parts_8 : decode cX11_parts 8 = .ok (.aload_n 0, 1) := by decide +kernel
theorem dX11_parts_9 : decode cX11_parts 9 = .ok (.iload_n 2, 1) := by decide +kernel
theorem dX11_parts_10 : decode cX11_parts 10 = .ok (.invokevirtual 282, 3) := by decide +kernel
theorem dX11_parts_13 : decode cX11_parts 13 = .ok (.ifCond .eq 8, 3) := by decide +kernel
theorem dX11_parts_16 : decode cX11_parts 16 = .ok (.iload_n 1, 1) := by decide +kernel
theorem dX11_parts_17 : decode cX11_parts 17 = .ok (.iload_n 2, 1) := by decide +kernel
theorem dX11_parts_18 : decode cX11_parts 18 = .ok (.if_icmp .ne 5, 3) := by decide +kernel
theorem dX11_parts_21 : decode cX11_parts 21 = .ok (.iconst (-1), 1) := by decide +kernel
theorem dX11_parts_22 : decode cX11_parts 22 = .ok (.ireturn, 1) := by decide +kernel
theorem dX11_parts_23 : decode cX11_parts 23 = .ok (.aload_n 0, 1) := by decide +kernel
theorem dX11_parts_24 : decode cX11_parts 24 = .ok (.getfield 68, 3) := by decide +kernel
theorem dX11_parts_27 : decode cX11_parts 27 = .ok (.aload_n 0, 1) := by decide +kernel
theorem dX11_parts_28 : decode cX11_parts 28 = .ok (.getfield 39, 3) := by decide +kernel
theorem dX11_parts_31 : decode cX11_parts 31 = .ok (.iload_n 1, 1) := by decide +kernel
theorem dX11_parts_32 : decode cX11_parts 32 = .ok (.aaload, 1) := by decide +kernel
theorem dX11_parts_33 : decode cX11_parts 33 = .ok (.ldc2_w 199, 3) := by decide +kernel
theorem dX11_parts_36 : decode cX11_parts 36 = .ok (.invokevirtual 293, 3) := by decide +kernel
theorem dX11_parts_39 : decode cX11_parts 39 = .ok (.aload_n 0, 1) := by decide +kernel
theorem dX11_parts_40 : decode cX11_parts 40 = .ok (.getfield 68, 3) := by decide +kernel
theorem dX11_parts_43 : decode cX11_parts 43 = .ok (.getfield 297, 3) := by decide +kernel
theorem dX11_parts_46 : decode cX11_parts 46 = .ok (.iconst 0, 1) := by decide +kernel
theorem dX11_parts_47 : decode cX11_parts 47 = .ok (.aload_n 0, 1) := by decide +kernel
theorem dX11_parts_48 : decode cX11_parts 48 = .ok (.getfield 86, 3) := by decide +kernel
theorem dX11_parts_51 : decode cX11_parts 51 = .ok (.iconst 0, 1) := by decide +kernel
theorem dX11_parts_52 : decode cX11_parts 52 = .ok (.bipush 8, 2) := by decide +kernel
theorem dX11_parts_54 : decode cX11_parts 54 = .ok (.invokestatic 298, 3) := by decide +kernel
theorem dX11_parts_57 : decode cX11_parts 57 = .ok (.aload_n 0, 1) := by decide +kernel
theorem dX11_parts_58 : decode cX11_parts 58 = .ok (.getfield 68, 3) := by decide +kernel
theorem dX11_parts_61 : decode cX11_parts 61 = .ok (.aload_n 0, 1) := by decide +kernel
theorem dX11_parts_62 : decode cX11_parts 62 = .ok (.getfield 39, 3) := by decide +kernel
theorem dX11_parts_65 : decode cX11_parts 65 = .ok (.iload_n 2, 1) := by decide +kernel
theorem dX11_parts_66 : decode cX11_parts 66 = .ok (.aaload, 1) := by decide +kernel
theorem dX11_parts_67 : decode cX11_parts 67 = .ok (.ldc2_w 199, 3) := by decide +kernel
theorem dX11_parts_70 : decode cX11_parts 70 = .ok (.invokevirtual 293, 3) := by decide +kernel
theorem dX11_parts_73 : decode cX11_parts 73 = .ok (.iconst 0, 1) := by decide +kernel
theorem dX11_parts_74 : decode cX11_parts 74 = .ok (.istore_n 3, 1) := by decide +kernel
theorem dX11_parts_75 : decode cX11_parts 75 = .ok (.iconst 0, 1) := by decide +kernel
theorem dX11_parts_76 : decode cX11_parts 76 = .ok (.istore 4, 2) := by decide +kernel
theorem dX11_parts_78 : decode cX11_parts 78 = .ok (.iload 4, 2) := by decide +kernel
theorem dX11_parts_80 : decode cX11_parts 80 = .ok (.bipush 8, 2) := by decide +kernel
theorem dX11_parts_82 : decode cX11_parts 82 = .ok (.if_icmp .ge 32, 3) := by decide +kernel
theorem dX11_parts_85 : decode cX11_parts 85 = .ok (.aload_n 0, 1) := by decide +kernel
theorem dX11_parts_86 : decode cX11_parts 86 = .ok (.getfield 86, 3) := by decide +kernel
theorem dX11_parts_89 : decode cX11_parts 89 = .ok (.iload 4, 2) := by decide +kernel
theorem dX11_parts_91 : decode cX11_parts 91 = .ok (.iaload, 1) := by decide +kernel
theorem dX11_parts_92 : decode cX11_parts 92 = .ok (.aload_n 0, 1) := by decide +kernel
theorem dX11_parts_93 : decode cX11_parts 93 = .ok (.getfield 68, 3) := by decide +kernel
theorem dX11_parts_96 : decode cX11_parts 96 = .ok (.getfield 297, 3) := by decide +kernel
theorem dX11_parts_99 : decode cX11_parts 99 = .ok (.iload 4, 2) := by decide +kernel
theorem dX11_parts_101 : decode cX11_parts 101 = .ok (.iaload, 1) := by decide +kernel
theorem dX11_parts_102 : decode cX11_parts 102 = .ok (.if_icmp .eq 6, 3) := by decide +kernel
theorem dX11_parts_105 : decode cX11_parts 105 = .ok (.iinc 3 1, 3) := by decide +kernel
theorem dX11_parts_108 : decode cX11_parts 108 = .ok (.iinc 4 1, 3) := by decide +kernel
theorem dX11_parts_111 : decode cX11_parts 111 = .ok (.goto (-33), 3) := by decide +kernel
theorem dX11_parts_114 : decode cX11_parts 114 = .ok (.iload_n 3, 1) := by decide +kernel
theorem dX11_parts_115 : decode cX11_parts 115 = .ok (.ireturn, 1) := by decide +kernel
theorem dX11_holds_0 : decode cX11_holds 0 = .ok (.iload_n 1, 1) := by decide +kernel
theorem dX11_holds_1 : decode cX11_holds 1 = .ok (.iload_n 2, 1) := by decide +kernel
theorem dX11_holds_2 : decode cX11_holds 2 = .ok (.invokestatic 304, 3) := by decide +kernel
theorem dX11_holds_5 : decode cX11_holds 5 = .ok (.ifCond .ne 5, 3) := by decide +kernel
theorem dX11_holds_8 : decode cX11_holds 8 = .ok (.iconst (-1), 1) := by decide +kernel
theorem dX11_holds_9 : decode cX11_holds 9 = .ok (.ireturn, 1) := by decide +kernel
theorem dX11_holds_10 : decode cX11_holds 10 = .ok (.aload_n 0, 1) := by decide +kernel
theorem dX11_holds_11 : decode cX11_holds 11 = .ok (.getfield 82, 3) := by decide +kernel
theorem dX11_holds_14 : decode cX11_holds 14 = .ok (.iload_n 1, 1) := by decide +kernel
theorem dX11_holds_15 : decode cX11_holds 15 = .ok (.i2l, 1) := by decide +kernel
theorem dX11_holds_16 : decode cX11_holds 16 = .ok (.putfield 308, 3) := by decide +kernel
theorem dX11_holds_19 : decode cX11_holds 19 = .ok (.iconst 0, 1) := by decide +kernel
theorem dX11_holds_20 : decode cX11_holds 20 = .ok (.istore_n 3, 1) := by decide +kernel
theorem dX11_holds_21 : decode cX11_holds 21 = .ok (.iconst 0, 1) := by decide +kernel
theorem dX11_holds_22 : decode cX11_holds 22 = .ok (.istore 4, 2) := by decide +kernel
theorem dX11_holds_24 : decode cX11_holds 24 = .ok (.iload 4, 2) := by decide +kernel
theorem dX11_holds_26 : decode cX11_holds 26 = .ok (.iload_n 2, 1) := by decide +kernel
theorem dX11_holds_27 : decode cX11_holds 27 = .ok (.if_icmp .ge 54, 3) := by decide +kernel
theorem dX11_holds_30 : decode cX11_holds 30 = .ok (.aload_n 0, 1) := by decide +kernel
theorem dX11_holds_31 : decode cX11_holds 31 = .ok (.getfield 68, 3) := by decide +kernel
theorem dX11_holds_34 : decode cX11_holds 34 = .ok (.aload_n 0, 1) := by decide +kernel
theorem dX11_holds_35 : decode cX11_holds 35 = .ok (.getfield 33, 3) := by decide +kernel
theorem dX11_holds_38 : decode cX11_holds 38 = .ok (.aload_n 0, 1) := by decide +kernel
theorem dX11_holds_39 : decode cX11_holds 39 = .ok (.getfield 82, 3) := by decide +kernel
theorem dX11_holds_42 : decode cX11_holds 42 = .ok (.aload_n 0, 1) := by decide +kernel
theorem dX11_holds_43 : decode cX11_holds 43 = .ok (.getfield 23, 3) := by decide +kernel
theorem dX11_holds_46 : decode cX11_holds 46 = .ok (.getfield 150, 3) := by decide +kernel
theorem dX11_holds_49 : decode cX11_holds 49 = .ok (.aload_n 0, 1) := by decide +kernel
theorem dX11_holds_50 : decode cX11_holds 50 = .ok (.getfield 23, 3) := by decide +kernel
theorem dX11_holds_53 : decode cX11_holds 53 = .ok (.getfield 156, 3) := by decide +kernel
theorem dX11_holds_56 : decode cX11_holds 56 = .ok (.invokevirtual 312, 3) := by decide +kernel
theorem dX11_holds_59 : decode cX11_holds 59 = .ok (.invokevirtual 201, 3) := by decide +kernel
theorem dX11_holds_62 : decode cX11_holds 62 = .ok (.aload_n 0, 1) := by decide +kernel
theorem dX11_holds_63 : decode cX11_holds 63 = .ok (.getfield 68, 3) := by decide +kernel
theorem dX11_holds_66 : decode cX11_holds 66 = .ok (.invokevirtual 316, 3) := by decide +kernel
theorem dX11_holds_69 : decode cX11_holds 69 = .ok (.ifCond .eq 6, 3) := by decide +kernel
theorem dX11_holds_72 : decode cX11_holds 72 = .ok (.iinc 3 1, 3) := by decide +kernel
theorem dX11_holds_75 : decode cX11_holds 75 = .ok (.iinc 4 1, 3) := by decide +kernel
theorem dX11_holds_78 : decode cX11_holds 78 = .ok (.goto (-54), 3) := by decide +kernel
theorem dX11_holds_81 : decode cX11_holds 81 = .ok (.iload_n 3, 1) := by decide +kernel
theorem dX11_holds_82 : decode cX11_holds 82 = .ok (.ireturn, 1) := by decide +kernel
theorem dX11_goes_0 : decode cX11_goes 0 = .ok (.aload_n 0, 1) := by decide +kernel
theorem dX11_goes_1 : decode cX11_goes 1 = .ok (.iload_n 1, 1) := by decide +kernel
theorem dX11_goes_2 : decode cX11_goes 2 = .ok (.invokevirtual 282, 3) := by decide +kernel
theorem dX11_goes_5 : decode cX11_goes 5 = .ok (.ifCond .eq 11, 3) := by decide +kernel
theorem dX11_goes_8 : decode cX11_goes 8 = .ok (.iload_n 2, 1) := by decide +kernel
theorem dX11_goes_9 : decode cX11_goes 9 = .ok (.iload_n 3, 1) := by decide +kernel
theorem dX11_goes_10 : decode cX11_goes 10 = .ok (.invokestatic 304, 3) := by decide +kernel
theorem dX11_goes_13 : decode cX11_goes 13 = .ok (.ifCond .ne 5, 3) := by decide +kernel
theorem dX11_goes_16 : decode cX11_goes 16 = .ok (.iconst (-1), 1) := by decide +kernel
theorem dX11_goes_17 : decode cX11_goes 17 = .ok (.ireturn, 1) := by decide +kernel
theorem dX11_goes_18 : decode cX11_goes 18 = .ok (.aload_n 0, 1) := by decide +kernel
theorem dX11_goes_19 : decode cX11_goes 19 = .ok (.getfield 82, 3) := by decide +kernel
theorem dX11_goes_22 : decode cX11_goes 22 = .ok (.iload_n 2, 1) := by decide +kernel
theorem dX11_goes_23 : decode cX11_goes 23 = .ok (.i2l, 1) := by decide +kernel
theorem dX11_goes_24 : decode cX11_goes 24 = .ok (.putfield 308, 3) := by decide +kernel
theorem dX11_goes_27 : decode cX11_goes 27 = .ok (.iconst 0, 1) := by decide +kernel
theorem dX11_goes_28 : decode cX11_goes 28 = .ok (.istore 4, 2) := by decide +kernel
theorem dX11_goes_30 : decode cX11_goes 30 = .ok (.iconst 0, 1) := by decide +kernel
theorem dX11_goes_31 : decode cX11_goes 31 = .ok (.istore 5, 2) := by decide +kernel
theorem dX11_goes_33 : decode cX11_goes 33 = .ok (.iload 5, 2) := by decide +kernel
theorem dX11_goes_35 : decode cX11_goes 35 = .ok (.iload_n 3, 1) := by decide +kernel
theorem dX11_goes_36 : decode cX11_goes 36 = .ok (.if_icmp .ge 73, 3) := by decide +kernel
theorem dX11_goes_39 : decode cX11_goes 39 = .ok (.aload_n 0, 1) := by decide +kernel
theorem dX11_goes_40 : decode cX11_goes 40 = .ok (.getfield 68, 3) := by decide +kernel
theorem dX11_goes_43 : decode cX11_goes 43 = .ok (.aload_n 0, 1) := by decide +kernel
theorem dX11_goes_44 : decode cX11_goes 44 = .ok (.getfield 39, 3) := by decide +kernel
theorem dX11_goes_47 : decode cX11_goes 47 = .ok (.iload_n 1, 1) := by decide +kernel
theorem dX11_goes_48 : decode cX11_goes 48 = .ok (.aaload, 1) := by decide +kernel
theorem dX11_goes_49 : decode cX11_goes 49 = .ok (.aload_n 0, 1) := by decide +kernel
theorem dX11_goes_50 : decode cX11_goes 50 = .ok (.getfield 82, 3) := by decide +kernel
theorem dX11_goes_53 : decode cX11_goes 53 = .ok (.aload_n 0, 1) := by decide +kernel
theorem dX11_goes_54 : decode cX11_goes 54 = .ok (.getfield 23, 3) := by decide +kernel
theorem dX11_goes_57 : decode cX11_goes 57 = .ok (.getfield 150, 3) := by decide +kernel
theorem dX11_goes_60 : decode cX11_goes 60 = .ok (.aload_n 0, 1) := by decide +kernel
theorem dX11_goes_61 : decode cX11_goes 61 = .ok (.getfield 23, 3) := by decide +kernel
theorem dX11_goes_64 : decode cX11_goes 64 = .ok (.getfield 156, 3) := by decide +kernel
theorem dX11_goes_67 : decode cX11_goes 67 = .ok (.invokevirtual 312, 3) := by decide +kernel
theorem dX11_goes_70 : decode cX11_goes 70 = .ok (.invokevirtual 293, 3) := by decide +kernel
theorem dX11_goes_73 : decode cX11_goes 73 = .ok (.aload_n 0, 1) := by decide +kernel
theorem dX11_goes_74 : decode cX11_goes 74 = .ok (.getfield 68, 3) := by decide +kernel
theorem dX11_goes_77 : decode cX11_goes 77 = .ok (.invokevirtual 316, 3) := by decide +kernel
theorem dX11_goes_80 : decode cX11_goes 80 = .ok (.ifCond .eq 23, 3) := by decide +kernel
theorem dX11_goes_83 : decode cX11_goes 83 = .ok (.aload_n 0, 1) := by decide +kernel
theorem dX11_goes_84 : decode cX11_goes 84 = .ok (.getfield 68, 3) := by decide +kernel
theorem dX11_goes_87 : decode cX11_goes 87 = .ok (.getfield 212, 3) := by decide +kernel
theorem dX11_goes_90 : decode cX11_goes 90 = .ok (.aload_n 0, 1) := by decide +kernel
theorem dX11_goes_91 : decode cX11_goes 91 = .ok (.getfield 23, 3) := by decide +kernel
theorem dX11_goes_94 : decode cX11_goes 94 = .ok (.getfield 112, 3) := by decide +kernel
theorem dX11_goes_97 : decode cX11_goes 97 = .ok (.if_icmp .ne 6, 3) := by decide +kernel
theorem dX11_goes_100 : decode cX11_goes 100 = .ok (.iinc 4 1, 3) := by decide +kernel
theorem dX11_goes_103 : decode cX11_goes 103 = .ok (.iinc 5 1, 3) := by decide +kernel
theorem dX11_goes_106 : decode cX11_goes 106 = .ok (.goto (-73), 3) := by decide +kernel
theorem dX11_goes_109 : decode cX11_goes 109 = .ok (.iload 4, 2) := by decide +kernel
theorem dX11_goes_111 : decode cX11_goes 111 = .ok (.ireturn, 1) := by decide +kernel
theorem dX11_isDrawable_0 : decode cX11_isDrawable 0 = .ok (.iload_n 0, 1) := by decide +kernel
theorem dX11_isDrawable_1 : decode cX11_isDrawable 1 = .ok (.ifCond .lt 18, 3) := by decide +kernel
theorem dX11_isDrawable_4 : decode cX11_isDrawable 4 = .ok (.iload_n 1, 1) := by decide +kernel
theorem dX11_isDrawable_5 : decode cX11_isDrawable 5 = .ok (.iconst 1, 1) := by decide +kernel
theorem dX11_isDrawable_6 : decode cX11_isDrawable 6 = .ok (.if_icmp .lt 13, 3) := by decide +kernel
theorem dX11_isDrawable_9 : decode cX11_isDrawable 9 = .ok (.iload_n 1, 1) := by decide +kernel
theorem dX11_isDrawable_10 : decode cX11_isDrawable 10 = .ok (.bipush 100, 2) := by decide +kernel
theorem dX11_isDrawable_12 : decode cX11_isDrawable 12 = .ok (.if_icmp .gt 7, 3) := by decide +kernel
theorem dX11_isDrawable_15 : decode cX11_isDrawable 15 = .ok (.iconst 1, 1) := by decide +kernel
theorem dX11_isDrawable_16 : decode cX11_isDrawable 16 = .ok (.goto 4, 3) := by decide +kernel
theorem dX11_isDrawable_19 : decode cX11_isDrawable 19 = .ok (.iconst 0, 1) := by decide +kernel
theorem dX11_isDrawable_20 : decode cX11_isDrawable 20 = .ok (.ireturn, 1) := by decide +kernel
theorem dX11_surely_0 : decode cX11_surely 0 = .ok (.aload_n 0, 1) := by decide +kernel
theorem dX11_surely_1 : decode cX11_surely 1 = .ok (.getfield 23, 3) := by decide +kernel
theorem dX11_surely_4 : decode cX11_surely 4 = .ok (.getfield 150, 3) := by decide +kernel
theorem dX11_surely_7 : decode cX11_surely 7 = .ok (.bipush 10, 2) := by decide +kernel
theorem dX11_surely_9 : decode cX11_surely 9 = .ok (.if_icmp .le 5, 3) := by decide +kernel
theorem dX11_surely_12 : decode cX11_surely 12 = .ok (.iconst (-1), 1) := by decide +kernel
theorem dX11_surely_13 : decode cX11_surely 13 = .ok (.ireturn, 1) := by decide +kernel
theorem dX11_surely_14 : decode cX11_surely 14 = .ok (.iconst 0, 1) := by decide +kernel
theorem dX11_surely_15 : decode cX11_surely 15 = .ok (.istore_n 1, 1) := by decide +kernel
theorem dX11_surely_16 : decode cX11_surely 16 = .ok (.iconst 0, 1) := by decide +kernel
theorem dX11_surely_17 : decode cX11_surely 17 = .ok (.istore_n 2, 1) := by decide +kernel
theorem dX11_surely_18 : decode cX11_surely 18 = .ok (.iload_n 2, 1) := by decide +kernel
theorem dX11_surely_19 : decode cX11_surely 19 = .ok (.iconst 1, 1) := by decide +kernel
theorem dX11_surely_20 : decode cX11_surely 20 = .ok (.aload_n 0, 1) := by decide +kernel
theorem dX11_surely_21 : decode cX11_surely 21 = .ok (.getfield 23, 3) := by decide +kernel
theorem dX11_surely_24 : decode cX11_surely 24 = .ok (.getfield 150, 3) := by decide +kernel
theorem dX11_surely_27 : decode cX11_surely 27 = .ok (.ishl, 1) := by decide +kernel
theorem dX11_surely_28 : decode cX11_surely 28 = .ok (.if_icmp .ge 50, 3) := by decide +kernel
theorem dX11_surely_31 : decode cX11_surely 31 = .ok (.aload_n 0, 1) := by decide +kernel
theorem dX11_surely_32 : decode cX11_surely 32 = .ok (.iload_n 2, 1) := by decide +kernel
theorem dX11_surely_33 : decode cX11_surely 33 = .ok (.invokevirtual 320, 3) := by decide +kernel
theorem dX11_surely_36 : decode cX11_surely 36 = .ok (.istore_n 3, 1) := by decide +kernel
theorem dX11_surely_37 : decode cX11_surely 37 = .ok (.iload_n 3, 1) := by decide +kernel
theorem dX11_surely_38 : decode cX11_surely 38 = .ok (.ifCond .le 34, 3) := by decide +kernel
theorem dX11_surely_41 : decode cX11_surely 41 = .ok (.aload_n 0, 1) := by decide +kernel
theorem dX11_surely_42 : decode cX11_surely 42 = .ok (.getfield 68, 3) := by decide +kernel
theorem dX11_surely_45 : decode cX11_surely 45 = .ok (.aload_n 0, 1) := by decide +kernel
theorem dX11_surely_46 : decode cX11_surely 46 = .ok (.getfield 33, 3) := by decide +kernel
theorem dX11_surely_49 : decode cX11_surely 49 = .ok (.iload_n 2, 1) := by decide +kernel
theorem dX11_surely_50 : decode cX11_surely 50 = .ok (.i2l, 1) := by decide +kernel
theorem dX11_surely_51 : decode cX11_surely 51 = .ok (.invokevirtual 201, 3) := by decide +kernel
theorem dX11_surely_54 : decode cX11_surely 54 = .ok (.iload_n 1, 1) := by decide +kernel
theorem dX11_surely_55 : decode cX11_surely 55 = .ok (.aload_n 0, 1) := by decide +kernel
theorem dX11_surely_56 : decode cX11_surely 56 = .ok (.getfield 68, 3) := by decide +kernel
theorem dX11_surely_59 : decode cX11_surely 59 = .ok (.invokevirtual 316, 3) := by decide +kernel
theorem dX11_surely_62 : decode cX11_surely 62 = .ok (.ifCond .eq 7, 3) := by decide +kernel
theorem dX11_surely_65 : decode cX11_surely 65 = .ok (.iload_n 3, 1) := by decide +kernel
theorem dX11_surely_66 : decode cX11_surely 66 = .ok (.goto 4, 3) := by decide +kernel
theorem dX11_surely_69 : decode cX11_surely 69 = .ok (.iconst 0, 1) := by decide +kernel
theorem dX11_surely_70 : decode cX11_surely 70 = .ok (.iadd, 1) := by decide +kernel
theorem dX11_surely_71 : decode cX11_surely 71 = .ok (.istore_n 1, 1) := by decide +kernel
theorem dX11_surely_72 : decode cX11_surely 72 = .ok (.iinc 2 1, 3) := by decide +kernel
theorem dX11_surely_75 : decode cX11_surely 75 = .ok (.goto (-57), 3) := by decide +kernel
theorem dX11_surely_78 : decode cX11_surely 78 = .ok (.iload_n 1, 1) := by decide +kernel
theorem dX11_surely_79 : decode cX11_surely 79 = .ok (.ireturn, 1) := by decide +kernel
theorem dX11_chanceOf_0 : decode cX11_chanceOf 0 = .ok (.ldc2_w 323, 3) := by decide +kernel
theorem dX11_chanceOf_3 : decode cX11_chanceOf 3 = .ok (.lstore_n 2, 1) := by decide +kernel
theorem dX11_chanceOf_4 : decode cX11_chanceOf 4 = .ok (.iconst 0, 1) := by decide +kernel
theorem dX11_chanceOf_5 : decode cX11_chanceOf 5 = .ok (.istore 4, 2) := by decide +kernel
theorem dX11_chanceOf_7 : decode cX11_chanceOf 7 = .ok (.iload 4, 2) := by decide +kernel
theorem dX11_chanceOf_9 : decode cX11_chanceOf 9 = .ok (.aload_n 0, 1) := by decide +kernel
theorem dX11_chanceOf_10 : decode cX11_chanceOf 10 = .ok (.getfield 23, 3) := by decide +kernel
theorem dX11_chanceOf_13 : decode cX11_chanceOf 13 = .ok (.getfield 150, 3) := by decide +kernel
theorem dX11_chanceOf_16 : decode cX11_chanceOf 16 = .ok (.if_icmp .ge 51, 3) := by decide +kernel
theorem dX11_chanceOf_19 : decode cX11_chanceOf 19 = .ok (.iload_n 1, 1) := by decide +kernel
theorem dX11_chanceOf_20 : decode cX11_chanceOf 20 = .ok (.iload 4, 2) := by decide +kernel
theorem dX11_chanceOf_22 : decode cX11_chanceOf 22 = .ok (.ishr, 1) := by decide +kernel
theorem dX11_chanceOf_23 : decode cX11_chanceOf 23 = .ok (.iconst 1, 1) := by decide +kernel
theorem dX11_chanceOf_24 : decode cX11_chanceOf 24 = .ok (.iand, 1) := by decide +kernel
theorem dX11_chanceOf_25 : decode cX11_chanceOf 25 = .ok (.ifCond .eq 13, 3) := by decide +kernel
theorem dX11_chanceOf_28 : decode cX11_chanceOf 28 = .ok (.aload_n 0, 1) := by decide +kernel
theorem dX11_chanceOf_29 : decode cX11_chanceOf 29 = .ok (.getfield 23, 3) := by decide +kernel
theorem dX11_chanceOf_32 : decode cX11_chanceOf 32 = .ok (.getfield 156, 3) := by decide +kernel
theorem dX11_chanceOf_35 : decode cX11_chanceOf 35 = .ok (.goto 14, 3) := by decide +kernel
theorem dX11_chanceOf_38 : decode cX11_chanceOf 38 = .ok (.sipush 1000, 3) := by decide +kernel
theorem dX11_chanceOf_41 : decode cX11_chanceOf 41 = .ok (.aload_n 0, 1) := by decide +kernel
theorem dX11_chanceOf_42 : decode cX11_chanceOf 42 = .ok (.getfield 23, 3) := by decide +kernel
theorem dX11_chanceOf_45 : decode cX11_chanceOf 45 = .ok (.getfield 156, 3) := by decide +kernel
theorem dX11_chanceOf_48 : decode cX11_chanceOf 48 = .ok (.isub, 1) := by decide +kernel
theorem dX11_chanceOf_49 : decode cX11_chanceOf 49 = .ok (.istore 5, 2) := by decide +kernel
theorem dX11_chanceOf_51 : decode cX11_chanceOf 51 = .ok (.lload_n 2, 1) := by decide +kernel
theorem dX11_chanceOf_52 : decode cX11_chanceOf 52 = .ok (.iload 5, 2) := by decide +kernel
theorem dX11_chanceOf_54 : decode cX11_chanceOf 54 = .ok (.i2l, 1) := by decide +kernel
theorem dX11_chanceOf_55 : decode cX11_chanceOf 55 = .ok (.lmul, 1) := by decide +kernel
theorem dX11_chanceOf_56 : decode cX11_chanceOf 56 = .ok (.ldc2_w 325, 3) := by decide +kernel
theorem dX11_chanceOf_59 : decode cX11_chanceOf 59 = .ok (.ldiv, 1) := by decide +kernel
theorem dX11_chanceOf_60 : decode cX11_chanceOf 60 = .ok (.lstore_n 2, 1) := by decide +kernel
theorem dX11_chanceOf_61 : decode cX11_chanceOf 61 = .ok (.iinc 4 1, 3) := by decide +kernel
theorem dX11_chanceOf_64 : decode cX11_chanceOf 64 = .ok (.goto (-57), 3) := by decide +kernel
theorem dX11_chanceOf_67 : decode cX11_chanceOf 67 = .ok (.lload_n 2, 1) := by decide +kernel
theorem dX11_chanceOf_68 : decode cX11_chanceOf 68 = .ok (.l2i, 1) := by decide +kernel
theorem dX11_chanceOf_69 : decode cX11_chanceOf 69 = .ok (.ireturn, 1) := by decide +kernel
theorem dX11_most_0 : decode cX11_most 0 = .ok (.iload_n 1, 1) := by decide +kernel
theorem dX11_most_1 : decode cX11_most 1 = .ok (.invokestatic 175, 3) := by decide +kernel
theorem dX11_most_4 : decode cX11_most 4 = .ok (.ifCond .eq 21, 3) := by decide +kernel
theorem dX11_most_7 : decode cX11_most 7 = .ok (.iload_n 2, 1) := by decide +kernel
theorem dX11_most_8 : decode cX11_most 8 = .ok (.ifCond .lt 17, 3) := by decide +kernel
theorem dX11_most_11 : decode cX11_most 11 = .ok (.iload_n 2, 1) := by decide +kernel
theorem dX11_most_12 : decode cX11_most 12 = .ok (.aload_n 0, 1) := by decide +kernel
theorem dX11_most_13 : decode cX11_most 13 = .ok (.getfield 23, 3) := by decide +kernel
theorem dX11_most_16 : decode cX11_most 16 = .ok (.getfield 112, 3) := by decide +kernel
theorem dX11_most_19 : decode cX11_most 19 = .ok (.invokestatic 115, 3) := by decide +kernel
theorem dX11_most_22 : decode cX11_most 22 = .ok (.if_icmp .le 5, 3) := by decide +kernel
theorem dX11_most_25 : decode cX11_most 25 = .ok (.iconst (-1), 1) := by decide +kernel
theorem dX11_most_26 : decode cX11_most 26 = .ok (.ireturn, 1) := by decide +kernel
theorem dX11_most_27 : decode cX11_most 27 = .ok (.iconst (-1), 1) := by decide +kernel
theorem dX11_most_28 : decode cX11_most 28 = .ok (.istore_n 3, 1) := by decide +kernel
theorem dX11_most_29 : decode cX11_most 29 = .ok (.iconst (-1), 1) := by decide +kernel
theorem dX11_most_30 : decode cX11_most 30 = .ok (.istore 4, 2) := by decide +kernel
theorem dX11_most_32 : decode cX11_most 32 = .ok (.iconst 0, 1) := by decide +kernel
theorem dX11_most_33 : decode cX11_most 33 = .ok (.istore 5, 2) := by decide +kernel
theorem dX11_most_35 : decode cX11_most 35 = .ok (.iload 5, 2) := by decide +kernel
theorem dX11_most_37 : decode cX11_most 37 = .ok (.aload_n 0, 1) := by decide +kernel
theorem dX11_most_38 : decode cX11_most 38 = .ok (.getfield 23, 3) := by decide +kernel
theorem dX11_most_41 : decode cX11_most 41 = .ok (.getfield 112, 3) := by decide +kernel
theorem dX11_most_44 : decode cX11_most 44 = .ok (.if_icmp .gt 72, 3) := by decide +kernel
theorem dX11_most_47 : decode cX11_most 47 = .ok (.aload_n 0, 1) := by decide +kernel
theorem dX11_most_48 : decode cX11_most 48 = .ok (.getfield 23, 3) := by decide +kernel
theorem dX11_most_51 : decode cX11_most 51 = .ok (.iload 5, 2) := by decide +kernel
theorem dX11_most_53 : decode cX11_most 53 = .ok (.invokevirtual 182, 3) := by decide +kernel
theorem dX11_most_56 : decode cX11_most 56 = .ok (.ifCond .eq 54, 3) := by decide +kernel
theorem dX11_most_59 : decode cX11_most 59 = .ok (.iload 5, 2) := by decide +kernel
theorem dX11_most_61 : decode cX11_most 61 = .ok (.invokestatic 115, 3) := by decide +kernel
theorem dX11_most_64 : decode cX11_most 64 = .ok (.iload_n 2, 1) := by decide +kernel
theorem dX11_most_65 : decode cX11_most 65 = .ok (.if_icmp .ne 45, 3) := by decide +kernel
theorem dX11_most_68 : decode cX11_most 68 = .ok (.aload_n 0, 1) := by decide +kernel
theorem dX11_most_69 : decode cX11_most 69 = .ok (.getfield 23, 3) := by decide +kernel
theorem dX11_most_72 : decode cX11_most 72 = .ok (.aload_n 0, 1) := by decide +kernel
theorem dX11_most_73 : decode cX11_most 73 = .ok (.getfield 59, 3) := by decide +kernel
theorem dX11_most_76 : decode cX11_most 76 = .ok (.iload_n 1, 1) := by decide +kernel
theorem dX11_most_77 : decode cX11_most 77 = .ok (.iload 5, 2) := by decide +kernel
theorem dX11_most_79 : decode cX11_most 79 = .ok (.aload_n 0, 1) := by decide +kernel
theorem dX11_most_80 : decode cX11_most 80 = .ok (.getfield 23, 3) := by decide +kernel
theorem dX11_most_83 : decode cX11_most 83 = .ok (.getfield 112, 3) := by decide +kernel
theorem dX11_most_86 : decode cX11_most 86 = .ok (.iload 5, 2) := by decide +kernel
theorem dX11_most_88 : decode cX11_most 88 = .ok (.iconst (-1), 1) := by decide +kernel
theorem dX11_most_89 : decode cX11_most 89 = .ok (.ixor, 1) := by decide +kernel
theorem dX11_most_90 : decode cX11_most 90 = .ok (.iand, 1) := by decide +kernel
theorem dX11_most_91 : decode cX11_most 91 = .ok (.invokevirtual 185, 3) := by decide +kernel
theorem dX11_most_94 : decode cX11_most 94 = .ok (.istore 6, 2) := by decide +kernel
theorem dX11_most_96 : decode cX11_most 96 = .ok (.iload 6, 2) := by decide +kernel
theorem dX11_most_98 : decode cX11_most 98 = .ok (.iload 4, 2) := by decide +kernel
theorem dX11_most_100 : decode cX11_most 100 = .ok (.if_icmp .le 10, 3) := by decide +kernel
theorem dX11_most_103 : decode cX11_most 103 = .ok (.iload 6, 2) := by decide +kernel
theorem dX11_most_105 : decode cX11_most 105 = .ok (.istore 4, 2) := by decide +kernel
theorem dX11_most_107 : decode cX11_most 107 = .ok (.iload 5, 2) := by decide +kernel
theorem dX11_most_109 : decode cX11_most 109 = .ok (.istore_n 3, 1) := by decide +kernel
theorem dX11_most_110 : decode cX11_most 110 = .ok (.iinc 5 1, 3) := by decide +kernel
theorem dX11_most_113 : decode cX11_most 113 = .ok (.goto (-78), 3) := by decide +kernel
theorem dX11_most_116 : decode cX11_most 116 = .ok (.iload_n 3, 1) := by decide +kernel
theorem dX11_most_117 : decode cX11_most 117 = .ok (.ireturn, 1) := by decide +kernel
theorem dX11_needed_0 : decode cX11_needed 0 = .ok (.aload_n 0, 1) := by decide +kernel
theorem dX11_needed_1 : decode cX11_needed 1 = .ok (.getfield 23, 3) := by decide +kernel
theorem dX11_needed_4 : decode cX11_needed 4 = .ok (.iload_n 1, 1) := by decide +kernel
theorem dX11_needed_5 : decode cX11_needed 5 = .ok (.invokevirtual 182, 3) := by decide +kernel
theorem dX11_needed_8 : decode cX11_needed 8 = .ok (.ifCond .eq 10, 3) := by decide +kernel
theorem dX11_needed_11 : decode cX11_needed 11 = .ok (.iload_n 2, 1) := by decide +kernel
theorem dX11_needed_12 : decode cX11_needed 12 = .ok (.invokestatic 175, 3) := by decide +kernel
theorem dX11_needed_15 : decode cX11_needed 15 = .ok (.ifCond .ne 5, 3) := by decide +kernel
theorem dX11_needed_18 : decode cX11_needed 18 = .ok (.iconst (-1), 1) := by decide +kernel
theorem dX11_needed_19 : decode cX11_needed 19 = .ok (.ireturn, 1) := by decide +kernel
theorem dX11_needed_20 : decode cX11_needed 20 = .ok (.aload_n 0, 1) := by decide +kernel
theorem dX11_needed_21 : decode cX11_needed 21 = .ok (.getfield 23, 3) := by decide +kernel
theorem dX11_needed_24 : decode cX11_needed 24 = .ok (.getfield 112, 3) := by decide +kernel
theorem dX11_needed_27 : decode cX11_needed 27 = .ok (.iload_n 1, 1) := by decide +kernel
theorem dX11_needed_28 : decode cX11_needed 28 = .ok (.iconst (-1), 1) := by decide +kernel
theorem dX11_needed_29 : decode cX11_needed 29 = .ok (.ixor, 1) := by decide +kernel
theorem dX11_needed_30 : decode cX11_needed 30 = .ok (.iand, 1) := by decide +kernel
theorem dX11_needed_31 : decode cX11_needed 31 = .ok (.istore_n 3, 1) := by decide +kernel
theorem dX11_needed_32 : decode cX11_needed 32 = .ok (.iload_n 3, 1) := by decide +kernel
theorem dX11_needed_33 : decode cX11_needed 33 = .ok (.aload_n 0, 1) := by decide +kernel
theorem dX11_needed_34 : decode cX11_needed 34 = .ok (.getfield 23, 3) := by decide +kernel
theorem dX11_needed_37 : decode cX11_needed 37 = .ok (.iload_n 2, 1) := by decide +kernel
theorem dX11_needed_38 : decode cX11_needed 38 = .ok (.invokevirtual 327, 3) := by decide +kernel
theorem dX11_needed_41 : decode cX11_needed 41 = .ok (.iand, 1) := by decide +kernel
theorem dX11_needed_42 : decode cX11_needed 42 = .ok (.ifCond .eq 6, 3) := by decide +kernel
theorem dX11_needed_45 : decode cX11_needed 45 = .ok (.bipush (-2), 2) := by decide +kernel
theorem dX11_needed_47 : decode cX11_needed 47 = .ok (.ireturn, 1) := by decide +kernel
theorem dX11_needed_48 : decode cX11_needed 48 = .ok (.iconst 0, 1) := by decide +kernel
theorem dX11_needed_49 : decode cX11_needed 49 = .ok (.istore 4, 2) := by decide +kernel
theorem dX11_needed_51 : decode cX11_needed 51 = .ok (.iconst 0, 1) := by decide +kernel
theorem dX11_needed_52 : decode cX11_needed 52 = .ok (.istore 5, 2) := by decide +kernel
theorem dX11_needed_54 : decode cX11_needed 54 = .ok (.iload 5, 2) := by decide +kernel
theorem dX11_needed_56 : decode cX11_needed 56 = .ok (.bipush 8, 2) := by decide +kernel
theorem dX11_needed_58 : decode cX11_needed 58 = .ok (.if_icmp .ge 33, 3) := by decide +kernel
theorem dX11_needed_61 : decode cX11_needed 61 = .ok (.iload_n 3, 1) := by decide +kernel
theorem dX11_needed_62 : decode cX11_needed 62 = .ok (.iload 5, 2) := by decide +kernel
theorem dX11_needed_64 : decode cX11_needed 64 = .ok (.ishr, 1) := by decide +kernel
theorem dX11_needed_65 : decode cX11_needed 65 = .ok (.iconst 1, 1) := by decide +kernel
theorem dX11_needed_66 : decode cX11_needed 66 = .ok (.iand, 1) := by decide +kernel
theorem dX11_needed_67 : decode cX11_needed 67 = .ok (.ifCond .eq 18, 3) := by decide +kernel
theorem dX11_needed_70 : decode cX11_needed 70 = .ok (.iload 4, 2) := by decide +kernel
theorem dX11_needed_72 : decode cX11_needed 72 = .ok (.aload_n 0, 1) := by decide +kernel
theorem dX11_needed_73 : decode cX11_needed 73 = .ok (.getfield 23, 3) := by decide +kernel
theorem dX11_needed_76 : decode cX11_needed 76 = .ok (.iload 5, 2) := by decide +kernel
theorem dX11_needed_78 : decode cX11_needed 78 = .ok (.iload_n 2, 1) := by decide +kernel
theorem dX11_needed_79 : decode cX11_needed 79 = .ok (.invokevirtual 178, 3) := by decide +kernel
theorem dX11_needed_82 : decode cX11_needed 82 = .ok (.iadd, 1) := by decide +kernel
theorem dX11_needed_83 : decode cX11_needed 83 = .ok (.istore 4, 2) := by decide +kernel
theorem dX11_needed_85 : decode cX11_needed 85 = .ok (.iinc 5 1, 3) := by decide +kernel
theorem dX11_needed_88 : decode cX11_needed 88 = .ok (.goto (-34), 3) := by decide +kernel
theorem dX11_needed_91 : decode cX11_needed 91 = .ok (.iload 4, 2) := by decide +kernel
theorem dX11_needed_93 : decode cX11_needed 93 = .ok (.ireturn, 1) := by decide +kernel
theorem dX11_pays_0 : decode cX11_pays 0 = .ok (.aload_n 0, 1) := by decide +kernel
theorem dX11_pays_1 : decode cX11_pays 1 = .ok (.getfield 23, 3) := by decide +kernel
theorem dX11_pays_4 : decode cX11_pays 4 = .ok (.iload_n 1, 1) := by decide +kernel
theorem dX11_pays_5 : decode cX11_pays 5 = .ok (.invokevirtual 128, 3) := by decide +kernel
theorem dX11_pays_8 : decode cX11_pays 8 = .ok (.ifCond .eq 29, 3) := by decide +kernel
theorem dX11_pays_11 : decode cX11_pays 11 = .ok (.aload_n 0, 1) := by decide +kernel
theorem dX11_pays_12 : decode cX11_pays 12 = .ok (.getfield 23, 3) := by decide +kernel
theorem dX11_pays_15 : decode cX11_pays 15 = .ok (.iload_n 2, 1) := by decide +kernel
theorem dX11_pays_16 : decode cX11_pays 16 = .ok (.invokevirtual 182, 3) := by decide +kernel
theorem dX11_pays_19 : decode cX11_pays 19 = .ok (.ifCond .eq 18, 3) := by decide +kernel
theorem dX11_pays_22 : decode cX11_pays 22 = .ok (.iload_n 3, 1) := by decide +kernel
theorem dX11_pays_23 : decode cX11_pays 23 = .ok (.invokestatic 175, 3) := by decide +kernel
theorem dX11_pays_26 : decode cX11_pays 26 = .ok (.ifCond .eq 11, 3) := by decide +kernel
theorem dX11_pays_29 : decode cX11_pays 29 = .ok (.iload_n 2, 1) := by decide +kernel
theorem dX11_pays_30 : decode cX11_pays 30 = .ok (.iload_n 1, 1) := by decide +kernel
theorem dX11_pays_31 : decode cX11_pays 31 = .ok (.ishr, 1) := by decide +kernel
theorem dX11_pays_32 : decode cX11_pays 32 = .ok (.iconst 1, 1) := by decide +kernel
theorem dX11_pays_33 : decode cX11_pays 33 = .ok (.iand, 1) := by decide +kernel
theorem dX11_pays_34 : decode cX11_pays 34 = .ok (.ifCond .ne 5, 3) := by decide +kernel
theorem dX11_pays_37 : decode cX11_pays 37 = .ok (.iconst (-1), 1) := by decide +kernel
theorem dX11_pays_38 : decode cX11_pays 38 = .ok (.ireturn, 1) := by decide +kernel
theorem dX11_pays_39 : decode cX11_pays 39 = .ok (.aload_n 0, 1) := by decide +kernel
theorem dX11_pays_40 : decode cX11_pays 40 = .ok (.getfield 23, 3) := by decide +kernel
theorem dX11_pays_43 : decode cX11_pays 43 = .ok (.getfield 112, 3) := by decide +kernel
theorem dX11_pays_46 : decode cX11_pays 46 = .ok (.iload_n 2, 1) := by decide +kernel
theorem dX11_pays_47 : decode cX11_pays 47 = .ok (.iconst (-1), 1) := by decide +kernel
theorem dX11_pays_48 : decode cX11_pays 48 = .ok (.ixor, 1) := by decide +kernel
theorem dX11_pays_49 : decode cX11_pays 49 = .ok (.iand, 1) := by decide +kernel
theorem dX11_pays_50 : decode cX11_pays 50 = .ok (.istore 4, 2) := by decide +kernel
theorem dX11_pays_52 : decode cX11_pays 52 = .ok (.iconst 1, 1) := by decide +kernel
theorem dX11_pays_53 : decode cX11_pays 53 = .ok (.iload_n 1, 1) := by decide +kernel
theorem dX11_pays_54 : decode cX11_pays 54 = .ok (.ishl, 1) := by decide +kernel
theorem dX11_pays_55 : decode cX11_pays 55 = .ok (.istore 5, 2) := by decide +kernel
theorem dX11_pays_57 : decode cX11_pays 57 = .ok (.aload_n 0, 1) := by decide +kernel
theorem dX11_pays_58 : decode cX11_pays 58 = .ok (.getfield 23, 3) := by decide +kernel
theorem dX11_pays_61 : decode cX11_pays 61 = .ok (.iload_n 1, 1) := by decide +kernel
theorem dX11_pays_62 : decode cX11_pays 62 = .ok (.iload_n 3, 1) := by decide +kernel
theorem dX11_pays_63 : decode cX11_pays 63 = .ok (.invokevirtual 178, 3) := by decide +kernel
theorem dX11_pays_66 : decode cX11_pays 66 = .ok (.istore 6, 2) := by decide +kernel
theorem dX11_pays_68 : decode cX11_pays 68 = .ok (.iconst 0, 1) := by decide +kernel
theorem dX11_pays_69 : decode cX11_pays 69 = .ok (.istore 7, 2) := by decide +kernel
theorem dX11_pays_71 : decode cX11_pays 71 = .ok (.iconst 1, 1) := by decide +kernel
theorem dX11_pays_72 : decode cX11_pays 72 = .ok (.istore 8, 2) := by decide +kernel
theorem dX11_pays_74 : decode cX11_pays 74 = .ok (.iload 8, 2) := by decide +kernel
theorem dX11_pays_76 : decode cX11_pays 76 = .ok (.sipush 200, 3) := by decide +kernel
theorem dX11_pays_79 : decode cX11_pays 79 = .ok (.if_icmp .gt 77, 3) := by decide +kernel
theorem dX11_pays_82 : decode cX11_pays 82 = .ok (.iload_n 3, 1) := by decide +kernel
theorem dX11_pays_83 : decode cX11_pays 83 = .ok (.iload 8, 2) := by decide +kernel
theorem dX11_pays_85 : decode cX11_pays 85 = .ok (.iadd, 1) := by decide +kernel
theorem dX11_pays_86 : decode cX11_pays 86 = .ok (.iconst 1, 1) := by decide +kernel
theorem dX11_pays_87 : decode cX11_pays 87 = .ok (.isub, 1) := by decide +kernel
theorem dX11_pays_88 : decode cX11_pays 88 = .ok (.istore 9, 2) := by decide +kernel
theorem dX11_pays_90 : decode cX11_pays 90 = .ok (.iload 7, 2) := by decide +kernel
theorem dX11_pays_92 : decode cX11_pays 92 = .ok (.aload_n 0, 1) := by decide +kernel
theorem dX11_pays_93 : decode cX11_pays 93 = .ok (.getfield 23, 3) := by decide +kernel
theorem dX11_pays_96 : decode cX11_pays 96 = .ok (.aload_n 0, 1) := by decide +kernel
theorem dX11_pays_97 : decode cX11_pays 97 = .ok (.getfield 59, 3) := by decide +kernel
theorem dX11_pays_100 : decode cX11_pays 100 = .ok (.iload 9, 2) := by decide +kernel
theorem dX11_pays_102 : decode cX11_pays 102 = .ok (.iload_n 2, 1) := by decide +kernel
theorem dX11_pays_103 : decode cX11_pays 103 = .ok (.iload 4, 2) := by decide +kernel
theorem dX11_pays_105 : decode cX11_pays 105 = .ok (.invokevirtual 185, 3) := by decide +kernel
theorem dX11_pays_108 : decode cX11_pays 108 = .ok (.iadd, 1) := by decide +kernel
theorem dX11_pays_109 : decode cX11_pays 109 = .ok (.istore 7, 2) := by decide +kernel
theorem dX11_pays_111 : decode cX11_pays 111 = .ok (.iload 7, 2) := by decide +kernel
theorem dX11_pays_113 : decode cX11_pays 113 = .ok (.aload_n 0, 1) := by decide +kernel
theorem dX11_pays_114 : decode cX11_pays 114 = .ok (.getfield 23, 3) := by decide +kernel
theorem dX11_pays_117 : decode cX11_pays 117 = .ok (.aload_n 0, 1) := by decide +kernel
theorem dX11_pays_118 : decode cX11_pays 118 = .ok (.getfield 59, 3) := by decide +kernel
theorem dX11_pays_121 : decode cX11_pays 121 = .ok (.iload 9, 2) := by decide +kernel
theorem dX11_pays_123 : decode cX11_pays 123 = .ok (.iload_n 2, 1) := by decide +kernel
theorem dX11_pays_124 : decode cX11_pays 124 = .ok (.iload 5, 2) := by decide +kernel
theorem dX11_pays_126 : decode cX11_pays 126 = .ok (.iconst (-1), 1) := by decide +kernel
theorem dX11_pays_127 : decode cX11_pays 127 = .ok (.ixor, 1) := by decide +kernel
theorem dX11_pays_128 : decode cX11_pays 128 = .ok (.iand, 1) := by decide +kernel
theorem dX11_pays_129 : decode cX11_pays 129 = .ok (.iload 4, 2) := by decide +kernel
theorem dX11_pays_131 : decode cX11_pays 131 = .ok (.iload 5, 2) := by decide +kernel
theorem dX11_pays_133 : decode cX11_pays 133 = .ok (.ior, 1) := by decide +kernel
theorem dX11_pays_134 : decode cX11_pays 134 = .ok (.invokevirtual 185, 3) := by decide +kernel
theorem dX11_pays_137 : decode cX11_pays 137 = .ok (.isub, 1) := by decide +kernel
theorem dX11_pays_138 : decode cX11_pays 138 = .ok (.istore 7, 2) := by decide +kernel
theorem dX11_pays_140 : decode cX11_pays 140 = .ok (.iload 7, 2) := by decide +kernel
theorem dX11_pays_142 : decode cX11_pays 142 = .ok (.iload 6, 2) := by decide +kernel
theorem dX11_pays_144 : decode cX11_pays 144 = .ok (.if_icmp .lt 6, 3) := by decide +kernel
theorem dX11_pays_147 : decode cX11_pays 147 = .ok (.iload 8, 2) := by decide +kernel
theorem dX11_pays_149 : decode cX11_pays 149 = .ok (.ireturn, 1) := by decide +kernel
theorem dX11_pays_150 : decode cX11_pays 150 = .ok (.iinc 8 1, 3) := by decide +kernel
theorem dX11_pays_153 : decode cX11_pays 153 = .ok (.goto (-79), 3) := by decide +kernel
theorem dX11_pays_156 : decode cX11_pays 156 = .ok (.bipush (-2), 2) := by decide +kernel
theorem dX11_pays_158 : decode cX11_pays 158 = .ok (.ireturn, 1) := by decide +kernel
theorem dX11_image_0 : decode cX11_image 0 = .ok (.iload_n 1, 1) := by decide +kernel
theorem dX11_image_1 : decode cX11_image 1 = .ok (.ifCond .lt 8, 3) := by decide +kernel
theorem dX11_image_4 : decode cX11_image 4 = .ok (.iload_n 1, 1) := by decide +kernel
theorem dX11_image_5 : decode cX11_image 5 = .ok (.iconst 4, 1) := by decide +kernel
theorem dX11_image_6 : decode cX11_image 6 = .ok (.if_icmp .lt 5, 3) := by decide +kernel
theorem dX11_image_9 : decode cX11_image 9 = .ok (.iconst (-1), 1) := by decide +kernel
theorem dX11_image_10 : decode cX11_image 10 = .ok (.ireturn, 1) := by decide +kernel
theorem dX11_image_11 : decode cX11_image 11 = .ok (.aload_n 0, 1) := by decide +kernel
theorem dX11_image_12 : decode cX11_image 12 = .ok (.getfield 44, 3) := by decide +kernel
theorem dX11_image_15 : decode cX11_image 15 = .ok (.iload_n 1, 1) := by decide +kernel
theorem dX11_image_16 : decode cX11_image 16 = .ok (.aaload, 1) := by decide +kernel
theorem dX11_image_17 : decode cX11_image 17 = .ok (.aload_n 0, 1) := by decide +kernel
theorem dX11_image_18 : decode cX11_image 18 = .ok (.getfield 23, 3) := by decide +kernel
theorem dX11_image_21 : decode cX11_image 21 = .ok (.invokevirtual 101, 3) := by decide +kernel
theorem dX11_image_24 : decode cX11_image 24 = .ok (.aload_n 0, 1) := by decide +kernel
theorem dX11_image_25 : decode cX11_image 25 = .ok (.getfield 48, 3) := by decide +kernel
theorem dX11_image_28 : decode cX11_image 28 = .ok (.iload_n 1, 1) := by decide +kernel
theorem dX11_image_29 : decode cX11_image 29 = .ok (.aaload, 1) := by decide +kernel
theorem dX11_image_30 : decode cX11_image 30 = .ok (.aload_n 0, 1) := by decide +kernel
theorem dX11_image_31 : decode cX11_image 31 = .ok (.getfield 33, 3) := by decide +kernel
theorem dX11_image_34 : decode cX11_image 34 = .ok (.invokevirtual 330, 3) := by decide +kernel
theorem dX11_image_37 : decode cX11_image 37 = .ok (.aload_n 0, 1) := by decide +kernel
theorem dX11_image_38 : decode cX11_image 38 = .ok (.getfield 52, 3) := by decide +kernel
theorem dX11_image_41 : decode cX11_image 41 = .ok (.iload_n 1, 1) := by decide +kernel
theorem dX11_image_42 : decode cX11_image 42 = .ok (.iconst 1, 1) := by decide +kernel
theorem dX11_image_43 : decode cX11_image 43 = .ok (.bastore, 1) := by decide +kernel
theorem dX11_image_44 : decode cX11_image 44 = .ok (.aload_n 0, 1) := by decide +kernel
theorem dX11_image_45 : decode cX11_image 45 = .ok (.getfield 33, 3) := by decide +kernel
theorem dX11_image_48 : decode cX11_image 48 = .ok (.getfield 105, 3) := by decide +kernel
theorem dX11_image_51 : decode cX11_image 51 = .ok (.ireturn, 1) := by decide +kernel
theorem dX11_back_0 : decode cX11_back 0 = .ok (.iload_n 1, 1) := by decide +kernel
theorem dX11_back_1 : decode cX11_back 1 = .ok (.ifCond .lt 17, 3) := by decide +kernel
theorem dX11_back_4 : decode cX11_back 4 = .ok (.iload_n 1, 1) := by decide +kernel
theorem dX11_back_5 : decode cX11_back 5 = .ok (.iconst 4, 1) := by decide +kernel
theorem dX11_back_6 : decode cX11_back 6 = .ok (.if_icmp .ge 12, 3) := by decide +kernel
theorem dX11_back_9 : decode cX11_back 9 = .ok (.aload_n 0, 1) := by decide +kernel
theorem dX11_back_10 : decode cX11_back 10 = .ok (.getfield 52, 3) := by decide +kernel
theorem dX11_back_13 : decode cX11_back 13 = .ok (.iload_n 1, 1) := by decide +kernel
theorem dX11_back_14 : decode cX11_back 14 = .ok (.baload, 1) := by decide +kernel
theorem dX11_back_15 : decode cX11_back 15 = .ok (.ifCond .ne 5, 3) := by decide +kernel
theorem dX11_back_18 : decode cX11_back 18 = .ok (.iconst (-1), 1) := by decide +kernel
theorem dX11_back_19 : decode cX11_back 19 = .ok (.ireturn, 1) := by decide +kernel
theorem dX11_back_20 : decode cX11_back 20 = .ok (.aload_n 0, 1) := by decide +kernel
theorem dX11_back_21 : decode cX11_back 21 = .ok (.getfield 23, 3) := by decide +kernel
theorem dX11_back_24 : decode cX11_back 24 = .ok (.aload_n 0, 1) := by decide +kernel
theorem dX11_back_25 : decode cX11_back 25 = .ok (.getfield 44, 3) := by decide +kernel
theorem dX11_back_28 : decode cX11_back 28 = .ok (.iload_n 1, 1) := by decide +kernel
theorem dX11_back_29 : decode cX11_back 29 = .ok (.aaload, 1) := by decide +kernel
theorem dX11_back_30 : decode cX11_back 30 = .ok (.invokevirtual 101, 3) := by decide +kernel
theorem dX11_back_33 : decode cX11_back 33 = .ok (.aload_n 0, 1) := by decide +kernel
theorem dX11_back_34 : decode cX11_back 34 = .ok (.getfield 33, 3) := by decide +kernel
theorem dX11_back_37 : decode cX11_back 37 = .ok (.aload_n 0, 1) := by decide +kernel
theorem dX11_back_38 : decode cX11_back 38 = .ok (.getfield 48, 3) := by decide +kernel
theorem dX11_back_41 : decode cX11_back 41 = .ok (.iload_n 1, 1) := by decide +kernel
theorem dX11_back_42 : decode cX11_back 42 = .ok (.aaload, 1) := by decide +kernel
theorem dX11_back_43 : decode cX11_back 43 = .ok (.invokevirtual 330, 3) := by decide +kernel
theorem dX11_back_46 : decode cX11_back 46 = .ok (.aload_n 0, 1) := by decide +kernel
theorem dX11_back_47 : decode cX11_back 47 = .ok (.getfield 75, 3) := by decide +kernel
theorem dX11_back_50 : decode cX11_back 50 = .ok (.iconst 0, 1) := by decide +kernel
theorem dX11_back_51 : decode cX11_back 51 = .ok (.putfield 108, 3) := by decide +kernel
theorem dX11_back_54 : decode cX11_back 54 = .ok (.aload_n 0, 1) := by decide +kernel
theorem dX11_back_55 : decode cX11_back 55 = .ok (.getfield 33, 3) := by decide +kernel
theorem dX11_back_58 : decode cX11_back 58 = .ok (.getfield 105, 3) := by decide +kernel
theorem dX11_back_61 : decode cX11_back 61 = .ok (.ireturn, 1) := by decide +kernel
