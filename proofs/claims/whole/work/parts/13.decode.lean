theorem dX12_init_0 : decode cX12_init 0 = .ok (.aload_n 0, 1) := by decide +kernel
theorem dX12_init_1 : decode cX12_init 1 = .ok (.invokespecial 1, 3) := by decide +kernel
theorem dX12_init_4 : decode cX12_init 4 = .ok (.aload_n 0, 1) := by decide +kernel
theorem dX12_init_5 : decode cX12_init 5 = .ok (.sipush 400, 3) := by decide +kernel
theorem dX12_init_8 : decode cX12_init 8 = .ok (.newarray .byte, 2) := by decide +kernel
theorem dX12_init_10 : decode cX12_init 10 = .ok (.putfield 9, 3) := by decide +kernel
theorem dX12_init_13 : decode cX12_init 13 = .ok (.aload_n 0, 1) := by decide +kernel
theorem dX12_init_14 : decode cX12_init 14 = .ok (.sipush 2400, 3) := by decide +kernel
theorem dX12_init_17 : decode cX12_init 17 = .ok (.newarray .int, 2) := by decide +kernel
theorem dX12_init_19 : decode cX12_init 19 = .ok (.putfield 13, 3) := by decide +kernel
theorem dX12_init_22 : decode cX12_init 22 = .ok (.aload_n 0, 1) := by decide +kernel
theorem dX12_init_23 : decode cX12_init 23 = .ok (.sipush 2400, 3) := by decide +kernel
theorem dX12_init_26 : decode cX12_init 26 = .ok (.newarray .int, 2) := by decide +kernel
theorem dX12_init_28 : decode cX12_init 28 = .ok (.putfield 17, 3) := by decide +kernel
theorem dX12_init_31 : decode cX12_init 31 = .ok (.aload_n 0, 1) := by decide +kernel
theorem dX12_init_32 : decode cX12_init 32 = .ok (.bipush 8, 2) := by decide +kernel
theorem dX12_init_34 : decode cX12_init 34 = .ok (.newarray .int, 2) := by decide +kernel
theorem dX12_init_36 : decode cX12_init 36 = .ok (.putfield 20, 3) := by decide +kernel
theorem dX12_init_39 : decode cX12_init 39 = .ok (.aload_n 0, 1) := by decide +kernel
theorem dX12_init_40 : decode cX12_init 40 = .ok (.sipush 192, 3) := by decide +kernel
theorem dX12_init_43 : decode cX12_init 43 = .ok (.newarray .int, 2) := by decide +kernel
theorem dX12_init_45 : decode cX12_init 45 = .ok (.putfield 23, 3) := by decide +kernel
theorem dX12_init_48 : decode cX12_init 48 = .ok (.aload_n 0, 1) := by decide +kernel
theorem dX12_init_49 : decode cX12_init 49 = .ok (.sipush 192, 3) := by decide +kernel
theorem dX12_init_52 : decode cX12_init 52 = .ok (.newarray .int, 2) := by decide +kernel
theorem dX12_init_54 : decode cX12_init 54 = .ok (.putfield 26, 3) := by decide +kernel
theorem dX12_init_57 : decode cX12_init 57 = .ok (.aload_n 0, 1) := by decide +kernel
theorem dX12_init_58 : decode cX12_init 58 = .ok (.sipush 192, 3) := by decide +kernel
theorem dX12_init_61 : decode cX12_init 61 = .ok (.newarray .int, 2) := by decide +kernel
theorem dX12_init_63 : decode cX12_init 63 = .ok (.putfield 29, 3) := by decide +kernel
theorem dX12_init_66 : decode cX12_init 66 = .ok (.aload_n 0, 1) := by decide +kernel
theorem dX12_init_67 : decode cX12_init 67 = .ok (.sipush 192, 3) := by decide +kernel
theorem dX12_init_70 : decode cX12_init 70 = .ok (.newarray .int, 2) := by decide +kernel
theorem dX12_init_72 : decode cX12_init 72 = .ok (.putfield 32, 3) := by decide +kernel
theorem dX12_init_75 : decode cX12_init 75 = .ok (.aload_n 0, 1) := by decide +kernel
theorem dX12_init_76 : decode cX12_init 76 = .ok (.sipush 192, 3) := by decide +kernel
theorem dX12_init_79 : decode cX12_init 79 = .ok (.newarray .int, 2) := by decide +kernel
theorem dX12_init_81 : decode cX12_init 81 = .ok (.putfield 35, 3) := by decide +kernel
theorem dX12_init_84 : decode cX12_init 84 = .ok (.aload_n 0, 1) := by decide +kernel
theorem dX12_init_85 : decode cX12_init 85 = .ok (.sipush 192, 3) := by decide +kernel
theorem dX12_init_88 : decode cX12_init 88 = .ok (.newarray .int, 2) := by decide +kernel
theorem dX12_init_90 : decode cX12_init 90 = .ok (.putfield 38, 3) := by decide +kernel
theorem dX12_init_93 : decode cX12_init 93 = .ok (.aload_n 0, 1) := by decide +kernel
theorem dX12_init_94 : decode cX12_init 94 = .ok (.sipush 402, 3) := by decide +kernel
theorem dX12_init_97 : decode cX12_init 97 = .ok (.newarray .int, 2) := by decide +kernel
theorem dX12_init_99 : decode cX12_init 99 = .ok (.putfield 41, 3) := by decide +kernel
theorem dX12_init_102 : decode cX12_init 102 = .ok (.aload_n 0, 1) := by decide +kernel
theorem dX12_init_103 : decode cX12_init 103 = .ok (.bipush 16, 2) := by decide +kernel
theorem dX12_init_105 : decode cX12_init 105 = .ok (.newarray .int, 2) := by decide +kernel
theorem dX12_init_107 : decode cX12_init 107 = .ok (.putfield 44, 3) := by decide +kernel
theorem dX12_init_110 : decode cX12_init 110 = .ok (.aload_n 0, 1) := by decide +kernel
theorem dX12_init_111 : decode cX12_init 111 = .ok (.bipush 16, 2) := by decide +kernel
theorem dX12_init_113 : decode cX12_init 113 = .ok (.newarray .int, 2) := by decide +kernel
theorem dX12_init_115 : decode cX12_init 115 = .ok (.putfield 47, 3) := by decide +kernel
theorem dX12_init_118 : decode cX12_init 118 = .ok (.aload_n 0, 1) := by decide +kernel
theorem dX12_init_119 : decode cX12_init 119 = .ok (.bipush 16, 2) := by decide +kernel
theorem dX12_init_121 : decode cX12_init 121 = .ok (.newarray .int, 2) := by decide +kernel
theorem dX12_init_123 : decode cX12_init 123 = .ok (.putfield 50, 3) := by decide +kernel
theorem dX12_init_126 : decode cX12_init 126 = .ok (.aload_n 0, 1) := by decide +kernel
theorem dX12_init_127 : decode cX12_init 127 = .ok (.bipush 16, 2) := by decide +kernel
theorem dX12_init_129 : decode cX12_init 129 = .ok (.newarray .int, 2) := by decide +kernel
theorem dX12_init_131 : decode cX12_init 131 = .ok (.putfield 53, 3) := by decide +kernel
theorem dX12_init_134 : decode cX12_init 134 = .ok (.aload_n 0, 1) := by decide +kernel
theorem dX12_init_135 : decode cX12_init 135 = .ok (.bipush 16, 2) := by decide +kernel
theorem dX12_init_137 : decode cX12_init 137 = .ok (.newarray .int, 2) := by decide +kernel
theorem dX12_init_139 : decode cX12_init 139 = .ok (.putfield 56, 3) := by decide +kernel
theorem dX12_init_142 : decode cX12_init 142 = .ok (.aload_n 0, 1) := by decide +kernel
theorem dX12_init_143 : decode cX12_init 143 = .ok (.bipush 16, 2) := by decide +kernel
theorem dX12_init_145 : decode cX12_init 145 = .ok (.newarray .int, 2) := by decide +kernel
theorem dX12_init_147 : decode cX12_init 147 = .ok (.putfield 59, 3) := by decide +kernel
theorem dX12_init_150 : decode cX12_init 150 = .ok (.aload_n 0, 1) := by decide +kernel
theorem dX12_init_151 : decode cX12_init 151 = .ok (.bipush 16, 2) := by decide +kernel
theorem dX12_init_153 : decode cX12_init 153 = .ok (.newarray .int, 2) := by decide +kernel
theorem dX12_init_155 : decode cX12_init 155 = .ok (.putfield 62, 3) := by decide +kernel
theorem dX12_init_158 : decode cX12_init 158 = .ok (.aload_n 0, 1) := by decide +kernel
theorem dX12_init_159 : decode cX12_init 159 = .ok (.iconst 2, 1) := by decide +kernel
theorem dX12_init_160 : decode cX12_init 160 = .ok (.newarray .int, 2) := by decide +kernel
theorem dX12_init_162 : decode cX12_init 162 = .ok (.putfield 65, 3) := by decide +kernel
theorem dX12_init_165 : decode cX12_init 165 = .ok (.aload_n 0, 1) := by decide +kernel
theorem dX12_init_166 : decode cX12_init 166 = .ok (.iconst 2, 1) := by decide +kernel
theorem dX12_init_167 : decode cX12_init 167 = .ok (.newarray .int, 2) := by decide +kernel
theorem dX12_init_169 : decode cX12_init 169 = .ok (.putfield 68, 3) := by decide +kernel
theorem dX12_init_172 : decode cX12_init 172 = .ok (.aload_n 0, 1) := by decide +kernel
theorem dX12_init_173 : decode cX12_init 173 = .ok (.iconst 2, 1) := by decide +kernel
theorem dX12_init_174 : decode cX12_init 174 = .ok (.newarray .int, 2) := by decide +kernel
theorem dX12_init_176 : decode cX12_init 176 = .ok (.putfield 71, 3) := by decide +kernel
theorem dX12_init_179 : decode cX12_init 179 = .ok (.aload_n 0, 1) := by decide +kernel
theorem dX12_init_180 : decode cX12_init 180 = .ok (.iconst 2, 1) := by decide +kernel
theorem dX12_init_181 : decode cX12_init 181 = .ok (.newarray .int, 2) := by decide +kernel
theorem dX12_init_183 : decode cX12_init 183 = .ok (.putfield 74, 3) := by decide +kernel
theorem dX12_init_186 : decode cX12_init 186 = .ok (.aload_n 0, 1) := by decide +kernel
theorem dX12_init_187 : decode cX12_init 187 = .ok (.iconst 2, 1) := by decide +kernel
theorem dX12_init_188 : decode cX12_init 188 = .ok (.newarray .int, 2) := by decide +kernel
theorem dX12_init_190 : decode cX12_init 190 = .ok (.putfield 77, 3) := by decide +kernel
theorem dX12_init_193 : decode cX12_init 193 = .ok (.aload_n 0, 1) := by decide +kernel
theorem dX12_init_194 : decode cX12_init 194 = .ok (.bipush 9, 2) := by decide +kernel
theorem dX12_init_196 : decode cX12_init 196 = .ok (.newarray .long, 2) := by decide +kernel
theorem dX12_init_198 : decode cX12_init 198 = .ok (.putfield 80, 3) := by decide +kernel
theorem dX12_init_201 : decode cX12_init 201 = .ok (.aload_n 0, 1) := by decide +kernel
theorem dX12_init_202 : decode cX12_init 202 = .ok (.sipush 300, 3) := by decide +kernel
theorem dX12_init_205 : decode cX12_init 205 = .ok (.newarray .long, 2) := by decide +kernel
theorem dX12_init_207 : decode cX12_init 207 = .ok (.putfield 84, 3) := by decide +kernel
theorem dX12_init_210 : decode cX12_init 210 = .ok (.aload_n 0, 1) := by decide +kernel
theorem dX12_init_211 : decode cX12_init 211 = .ok (.bipush 60, 2) := by decide +kernel
theorem dX12_init_213 : decode cX12_init 213 = .ok (.newarray .int, 2) := by decide +kernel
theorem dX12_init_215 : decode cX12_init 215 = .ok (.putfield 87, 3) := by decide +kernel
theorem dX12_init_218 : decode cX12_init 218 = .ok (.aload_n 0, 1) := by decide +kernel
theorem dX12_init_219 : decode cX12_init 219 = .ok (.bipush 60, 2) := by decide +kernel
theorem dX12_init_221 : decode cX12_init 221 = .ok (.newarray .int, 2) := by decide +kernel
theorem dX12_init_223 : decode cX12_init 223 = .ok (.putfield 90, 3) := by decide +kernel
theorem dX12_init_226 : decode cX12_init 226 = .ok (.aload_n 0, 1) := by decide +kernel
theorem dX12_init_227 : decode cX12_init 227 = .ok (.bipush 60, 2) := by decide +kernel
theorem dX12_init_229 : decode cX12_init 229 = .ok (.newarray .int, 2) := by decide +kernel
theorem dX12_init_231 : decode cX12_init 231 = .ok (.putfield 93, 3) := by decide +kernel
theorem dX12_init_234 : decode cX12_init 234 = .ok (.aload_n 0, 1) := by decide +kernel
theorem dX12_init_235 : decode cX12_init 235 = .ok (.bipush 8, 2) := by decide +kernel
theorem dX12_init_237 : decode cX12_init 237 = .ok (.newarray .int, 2) := by decide +kernel
theorem dX12_init_239 : decode cX12_init 239 = .ok (.putfield 96, 3) := by decide +kernel
theorem dX12_init_242 : decode cX12_init 242 = .ok (.aload_n 0, 1) := by decide +kernel
theorem dX12_init_243 : decode cX12_init 243 = .ok (.bipush 8, 2) := by decide +kernel
theorem dX12_init_245 : decode cX12_init 245 = .ok (.newarray .int, 2) := by decide +kernel
theorem dX12_init_247 : decode cX12_init 247 = .ok (.putfield 99, 3) := by decide +kernel
theorem dX12_init_250 : decode cX12_init 250 = .ok (.aload_n 0, 1) := by decide +kernel
theorem dX12_init_251 : decode cX12_init 251 = .ok (.bipush 8, 2) := by decide +kernel
theorem dX12_init_253 : decode cX12_init 253 = .ok (.newarray .int, 2) := by decide +kernel
theorem dX12_init_255 : decode cX12_init 255 = .ok (.putfield 102, 3) := by decide +kernel
theorem dX12_init_258 : decode cX12_init 258 = .ok (.aload_n 0, 1) := by decide +kernel
theorem dX12_init_259 : decode cX12_init 259 = .ok (.bipush 8, 2) := by decide +kernel
theorem dX12_init_261 : decode cX12_init 261 = .ok (.newarray .int, 2) := by decide +kernel
theorem dX12_init_263 : decode cX12_init 263 = .ok (.putfield 105, 3) := by decide +kernel
theorem dX12_init_266 : decode cX12_init 266 = .ok (.aload_n 0, 1) := by decide +kernel
theorem dX12_init_267 : decode cX12_init 267 = .ok (.bipush 60, 2) := by decide +kernel
theorem dX12_init_269 : decode cX12_init 269 = .ok (.newarray .int, 2) := by decide +kernel
theorem dX12_init_271 : decode cX12_init 271 = .ok (.putfield 108, 3) := by decide +kernel
theorem dX12_init_274 : decode cX12_init 274 = .ok (.aload_n 0, 1) := by decide +kernel
theorem dX12_init_275 : decode cX12_init 275 = .ok (.bipush 60, 2) := by decide +kernel
theorem dX12_init_277 : decode cX12_init 277 = .ok (.newarray .int, 2) := by decide +kernel
theorem dX12_init_279 : decode cX12_init 279 = .ok (.putfield 111, 3) := by decide +kernel
theorem dX12_init_282 : decode cX12_init 282 = .ok (.aload_n 0, 1) := by decide +kernel
theorem dX12_init_283 : decode cX12_init 283 = .ok (.bipush 8, 2) := by decide +kernel
theorem dX12_init_285 : decode cX12_init 285 = .ok (.newarray .boolean, 2) := by decide +kernel
theorem dX12_init_287 : decode cX12_init 287 = .ok (.putfield 114, 3) := by decide +kernel
theorem dX12_init_290 : decode cX12_init 290 = .ok (.aload_n 0, 1) := by decide +kernel
theorem dX12_init_291 : decode cX12_init 291 = .ok (.sipush 15360, 3) := by decide +kernel
theorem dX12_init_294 : decode cX12_init 294 = .ok (.newarray .int, 2) := by decide +kernel
theorem dX12_init_296 : decode cX12_init 296 = .ok (.putfield 118, 3) := by decide +kernel
theorem dX12_init_299 : decode cX12_init 299 = .ok (.aload_n 0, 1) := by decide +kernel
theorem dX12_init_300 : decode cX12_init 300 = .ok (.bipush 60, 2) := by decide +kernel
theorem dX12_init_302 : decode cX12_init 302 = .ok (.newarray .int, 2) := by decide +kernel
theorem dX12_init_304 : decode cX12_init 304 = .ok (.putfield 121, 3) := by decide +kernel
theorem dX12_init_307 : decode cX12_init 307 = .ok (.aload_n 0, 1) := by decide +kernel
theorem dX12_init_308 : decode cX12_init 308 = .ok (.bipush 8, 2) := by decide +kernel
theorem dX12_init_310 : decode cX12_init 310 = .ok (.newarray .int, 2) := by decide +kernel
theorem dX12_init_312 : decode cX12_init 312 = .ok (.putfield 124, 3) := by decide +kernel
theorem dX12_init_315 : decode cX12_init 315 = .ok (.aload_n 0, 1) := by decide +kernel
theorem dX12_init_316 : decode cX12_init 316 = .ok (.bipush 8, 2) := by decide +kernel
theorem dX12_init_318 : decode cX12_init 318 = .ok (.newarray .int, 2) := by decide +kernel
theorem dX12_init_320 : decode cX12_init 320 = .ok (.putfield 127, 3) := by decide +kernel
theorem dX12_init_323 : decode cX12_init 323 = .ok (.aload_n 0, 1) := by decide +kernel
theorem dX12_init_324 : decode cX12_init 324 = .ok (.sipush 3920, 3) := by decide +kernel
theorem dX12_init_327 : decode cX12_init 327 = .ok (.newarray .int, 2) := by decide +kernel
theorem dX12_init_329 : decode cX12_init 329 = .ok (.putfield 130, 3) := by decide +kernel
theorem dX12_init_332 : decode cX12_init 332 = .ok (.aload_n 0, 1) := by decide +kernel
theorem dX12_init_333 : decode cX12_init 333 = .ok (.iconst 4, 1) := by decide +kernel
theorem dX12_init_334 : decode cX12_init 334 = .ok (.newarray .boolean, 2) := by decide +kernel
theorem dX12_init_336 : decode cX12_init 336 = .ok (.putfield 133, 3) := by decide +kernel
theorem dX12_init_339 : decode cX12_init 339 = .ok (.aload_n 0, 1) := by decide +kernel
theorem dX12_init_340 : decode cX12_init 340 = .ok (.iconst 1, 1) := by decide +kernel
theorem dX12_init_341 : decode cX12_init 341 = .ok (.newarray .int, 2) := by decide +kernel
theorem dX12_init_343 : decode cX12_init 343 = .ok (.putfield 136, 3) := by decide +kernel
theorem dX12_init_346 : decode cX12_init 346 = .ok (.aload_n 0, 1) := by decide +kernel
theorem dX12_init_347 : decode cX12_init 347 = .ok (.iconst 0, 1) := by decide +kernel
theorem dX12_init_348 : decode cX12_init 348 = .ok (.invokevirtual 139, 3) := by decide +kernel
theorem dX12_init_351 : decode cX12_init 351 = .ok (.return_, 1) := by decide +kernel
theorem dX12_in_0 : decode cX12_in 0 = .ok (.lload_n 0, 1) := by decide +kernel
theorem dX12_in_1 : decode cX12_in 1 = .ok (.lload_n 2, 1) := by decide +kernel
theorem dX12_in_2 : decode cX12_in 2 = .ok (.lcmp, 1) := by decide +kernel
theorem dX12_in_3 : decode cX12_in 3 = .ok (.ifCond .lt 14, 3) := by decide +kernel
theorem dX12_in_6 : decode cX12_in 6 = .ok (.lload_n 0, 1) := by decide +kernel
theorem dX12_in_7 : decode cX12_in 7 = .ok (.lload 4, 2) := by decide +kernel
theorem dX12_in_9 : decode cX12_in 9 = .ok (.lcmp, 1) := by decide +kernel
theorem dX12_in_10 : decode cX12_in 10 = .ok (.ifCond .gt 7, 3) := by decide +kernel
theorem dX12_in_13 : decode cX12_in 13 = .ok (.iconst 1, 1) := by decide +kernel
theorem dX12_in_14 : decode cX12_in 14 = .ok (.goto 4, 3) := by decide +kernel
theorem dX12_in_17 : decode cX12_in 17 = .ok (.iconst 0, 1) := by decide +kernel
theorem dX12_in_18 : decode cX12_in 18 = .ok (.ireturn, 1) := by decide +kernel
theorem dX12_bits_0 : decode cX12_bits 0 = .ok (.iconst 0, 1) := by decide +kernel
theorem dX12_bits_1 : decode cX12_bits 1 = .ok (.istore_n 1, 1) := by decide +kernel
theorem dX12_bits_2 : decode cX12_bits 2 = .ok (.iload_n 0, 1) := by decide +kernel
theorem dX12_bits_3 : decode cX12_bits 3 = .ok (.istore_n 2, 1) := by decide +kernel
theorem dX12_bits_4 : decode cX12_bits 4 = .ok (.iload_n 2, 1) := by decide +kernel
theorem dX12_bits_5 : decode cX12_bits 5 = .ok (.ifCond .eq 15, 3) := by decide +kernel
theorem dX12_bits_8 : decode cX12_bits 8 = .ok (.iinc 1 1, 3) := by decide +kernel
theorem dX12_bits_11 : decode cX12_bits 11 = .ok (.iload_n 2, 1) := by decide +kernel
theorem dX12_bits_12 : decode cX12_bits 12 = .ok (.iload_n 2, 1) := by decide +kernel
theorem dX12_bits_13 : decode cX12_bits 13 = .ok (.iconst 1, 1) := by decide +kernel
theorem dX12_bits_14 : decode cX12_bits 14 = .ok (.isub, 1) := by decide +kernel
theorem dX12_bits_15 : decode cX12_bits 15 = .ok (.iand, 1) := by decide +kernel
theorem dX12_bits_16 : decode cX12_bits 16 = .ok (.istore_n 2, 1) := by decide +kernel
theorem dX12_bits_17 : decode cX12_bits 17 = .ok (.goto (-13), 3) := by decide +kernel
theorem dX12_bits_20 : decode cX12_bits 20 = .ok (.iload_n 1, 1) := by decide +kernel
theorem dX12_bits_21 : decode cX12_bits 21 = .ok (.ireturn, 1) := by decide +kernel
theorem dX12_clears_0 : decode cX12_clears 0 = .ok (.bipush 8, 2) := by decide +kernel
theorem dX12_clears_2 : decode cX12_clears 2 = .ok (.iload_n 1, 1) := by decide +kernel
theorem dX12_clears_3 : decode cX12_clears 3 = .ok (.imul, 1) := by decide +kernel
theorem dX12_clears_4 : decode cX12_clears 4 = .ok (.istore_n 2, 1) := by decide +kernel
theorem dX12_clears_5 : decode cX12_clears 5 = .ok (.iload_n 2, 1) := by decide +kernel
theorem dX12_clears_6 : decode cX12_clears 6 = .ok (.bipush 8, 2) := by decide +kernel
theorem dX12_clears_8 : decode cX12_clears 8 = .ok (.iload_n 1, 1) := by decide +kernel
theorem dX12_clears_9 : decode cX12_clears 9 = .ok (.imul, 1) := by decide +kernel
theorem dX12_clears_10 : decode cX12_clears 10 = .ok (.bipush 8, 2) := by decide +kernel
theorem dX12_clears_12 : decode cX12_clears 12 = .ok (.iadd, 1) := by decide +kernel
theorem dX12_clears_13 : decode cX12_clears 13 = .ok (.if_icmp .ge 58, 3) := by decide +kernel
theorem dX12_clears_16 : decode cX12_clears 16 = .ok (.aload_n 0, 1) := by decide +kernel
theorem dX12_clears_17 : decode cX12_clears 17 = .ok (.getfield 44, 3) := by decide +kernel
theorem dX12_clears_20 : decode cX12_clears 20 = .ok (.iload_n 2, 1) := by decide +kernel
theorem dX12_clears_21 : decode cX12_clears 21 = .ok (.iconst 0, 1) := by decide +kernel
theorem dX12_clears_22 : decode cX12_clears 22 = .ok (.iastore, 1) := by decide +kernel
theorem dX12_clears_23 : decode cX12_clears 23 = .ok (.aload_n 0, 1) := by decide +kernel
theorem dX12_clears_24 : decode cX12_clears 24 = .ok (.getfield 47, 3) := by decide +kernel
theorem dX12_clears_27 : decode cX12_clears 27 = .ok (.iload_n 2, 1) := by decide +kernel
theorem dX12_clears_28 : decode cX12_clears 28 = .ok (.iconst 0, 1) := by decide +kernel
theorem dX12_clears_29 : decode cX12_clears 29 = .ok (.iastore, 1) := by decide +kernel
theorem dX12_clears_30 : decode cX12_clears 30 = .ok (.aload_n 0, 1) := by decide +kernel
theorem dX12_clears_31 : decode cX12_clears 31 = .ok (.getfield 50, 3) := by decide +kernel
theorem dX12_clears_34 : decode cX12_clears 34 = .ok (.iload_n 2, 1) := by decide +kernel
theorem dX12_clears_35 : decode cX12_clears 35 = .ok (.iconst 0, 1) := by decide +kernel
theorem dX12_clears_36 : decode cX12_clears 36 = .ok (.iastore, 1) := by decide +kernel
theorem dX12_clears_37 : decode cX12_clears 37 = .ok (.aload_n 0, 1) := by decide +kernel
theorem dX12_clears_38 : decode cX12_clears 38 = .ok (.getfield 53, 3) := by decide +kernel
theorem dX12_clears_41 : decode cX12_clears 41 = .ok (.iload_n 2, 1) := by decide +kernel
theorem dX12_clears_42 : decode cX12_clears 42 = .ok (.iconst (-1), 1) := by decide +kernel
theorem dX12_clears_43 : decode cX12_clears 43 = .ok (.iastore, 1) := by decide +kernel
theorem dX12_clears_44 : decode cX12_clears 44 = .ok (.aload_n 0, 1) := by decide +kernel
theorem dX12_clears_45 : decode cX12_clears 45 = .ok (.getfield 56, 3) := by decide +kernel
theorem dX12_clears_48 : decode cX12_clears 48 = .ok (.iload_n 2, 1) := by decide +kernel
theorem dX12_clears_49 : decode cX12_clears 49 = .ok (.iconst 0, 1) := by decide +kernel
theorem dX12_clears_50 : decode cX12_clears 50 = .ok (.iastore, 1) := by decide +kernel
theorem dX12_clears_51 : decode cX12_clears 51 = .ok (.aload_n 0, 1) := by decide +kernel
theorem dX12_clears_52 : decode cX12_clears 52 = .ok (.getfield 59, 3) := by decide +kernel
theorem dX12_clears_55 : decode cX12_clears 55 = .ok (.iload_n 2, 1) := by decide +kernel
theorem dX12_clears_56 : decode cX12_clears 56 = .ok (.iconst 0, 1) := by decide +kernel
theorem dX12_clears_57 : decode cX12_clears 57 = .ok (.iastore, 1) := by decide +kernel
theorem dX12_clears_58 : decode cX12_clears 58 = .ok (.aload_n 0, 1) := by decide +kernel
theorem dX12_clears_59 : decode cX12_clears 59 = .ok (.getfield 62, 3) := by decide +kernel
theorem dX12_clears_62 : decode cX12_clears 62 = .ok (.iload_n 2, 1) := by decide +kernel
theorem dX12_clears_63 : decode cX12_clears 63 = .ok (.iconst 0, 1) := by decide +kernel
theorem dX12_clears_64 : decode cX12_clears 64 = .ok (.iastore, 1) := by decide +kernel
theorem dX12_clears_65 : decode cX12_clears 65 = .ok (.iinc 2 1, 3) := by decide +kernel
theorem dX12_clears_68 : decode cX12_clears 68 = .ok (.goto (-63), 3) := by decide +kernel
theorem dX12_clears_71 : decode cX12_clears 71 = .ok (.aload_n 0, 1) := by decide +kernel
theorem dX12_clears_72 : decode cX12_clears 72 = .ok (.getfield 65, 3) := by decide +kernel
theorem dX12_clears_75 : decode cX12_clears 75 = .ok (.iload_n 1, 1) := by decide +kernel
theorem dX12_clears_76 : decode cX12_clears 76 = .ok (.sipush 1000, 3) := by decide +kernel
theorem dX12_clears_79 : decode cX12_clears 79 = .ok (.iastore, 1) := by decide +kernel
theorem dX12_clears_80 : decode cX12_clears 80 = .ok (.aload_n 0, 1) := by decide +kernel
theorem dX12_clears_81 : decode cX12_clears 81 = .ok (.getfield 68, 3) := by decide +kernel
theorem dX12_clears_84 : decode cX12_clears 84 = .ok (.iload_n 1, 1) := by decide +kernel
theorem dX12_clears_85 : decode cX12_clears 85 = .ok (.iconst 0, 1) := by decide +kernel
theorem dX12_clears_86 : decode cX12_clears 86 = .ok (.iastore, 1) := by decide +kernel
theorem dX12_clears_87 : decode cX12_clears 87 = .ok (.aload_n 0, 1) := by decide +kernel
theorem dX12_clears_88 : decode cX12_clears 88 = .ok (.getfield 71, 3) := by decide +kernel
theorem dX12_clears_91 : decode cX12_clears 91 = .ok (.iload_n 1, 1) := by decide +kernel
theorem dX12_clears_92 : decode cX12_clears 92 = .ok (.iconst (-1), 1) := by decide +kernel
theorem dX12_clears_93 : decode cX12_clears 93 = .ok (.iastore, 1) := by decide +kernel
theorem dX12_clears_94 : decode cX12_clears 94 = .ok (.aload_n 0, 1) := by decide +kernel
theorem dX12_clears_95 : decode cX12_clears 95 = .ok (.getfield 74, 3) := by decide +kernel
theorem dX12_clears_98 : decode cX12_clears 98 = .ok (.iload_n 1, 1) := by decide +kernel
theorem dX12_clears_99 : decode cX12_clears 99 = .ok (.iconst 0, 1) := by decide +kernel
theorem dX12_clears_100 : decode cX12_clears 100 = .ok (.iastore, 1) := by decide +kernel
theorem dX12_clears_101 : decode cX12_clears 101 = .ok (.aload_n 0, 1) := by decide +kernel
theorem dX12_clears_102 : decode cX12_clears 102 = .ok (.getfield 77, 3) := by decide +kernel
theorem dX12_clears_105 : decode cX12_clears 105 = .ok (.iload_n 1, 1) := by decide +kernel
theorem dX12_clears_106 : decode cX12_clears 106 = .ok (.bipush 12, 2) := by decide +kernel
theorem dX12_clears_108 : decode cX12_clears 108 = .ok (.iastore, 1) := by decide +kernel
theorem dX12_clears_109 : decode cX12_clears 109 = .ok (.return_, 1) := by decide +kernel
theorem dX12_feed_0 : decode cX12_feed 0 = .ok (.aload_n 0, 1) := by decide +kernel
theorem dX12_feed_1 : decode cX12_feed 1 = .ok (.getfield 147, 3) := by decide +kernel
theorem dX12_feed_4 : decode cX12_feed 4 = .ok (.bipush 20, 2) := by decide +kernel
theorem dX12_feed_6 : decode cX12_feed 6 = .ok (.iadd, 1) := by decide +kernel
theorem dX12_feed_7 : decode cX12_feed 7 = .ok (.sipush 400, 3) := by decide +kernel
theorem dX12_feed_10 : decode cX12_feed 10 = .ok (.if_icmp .le 5, 3) := by decide +kernel
theorem dX12_feed_13 : decode cX12_feed 13 = .ok (.iconst (-1), 1) := by decide +kernel
theorem dX12_feed_14 : decode cX12_feed 14 = .ok (.ireturn, 1) := by decide +kernel
theorem dX12_feed_15 : decode cX12_feed 15 = .ok (.aload_n 0, 1) := by decide +kernel
theorem dX12_feed_16 : decode cX12_feed 16 = .ok (.iload_n 1, 1) := by decide +kernel
theorem dX12_feed_17 : decode cX12_feed 17 = .ok (.invokevirtual 150, 3) := by decide +kernel
theorem dX12_feed_20 : decode cX12_feed 20 = .ok (.aload_n 0, 1) := by decide +kernel
theorem dX12_feed_21 : decode cX12_feed 21 = .ok (.iload_n 2, 1) := by decide +kernel
theorem dX12_feed_22 : decode cX12_feed 22 = .ok (.invokevirtual 150, 3) := by decide +kernel
theorem dX12_feed_25 : decode cX12_feed 25 = .ok (.aload_n 0, 1) := by decide +kernel
theorem dX12_feed_26 : decode cX12_feed 26 = .ok (.iload_n 3, 1) := by decide +kernel
theorem dX12_feed_27 : decode cX12_feed 27 = .ok (.invokevirtual 150, 3) := by decide +kernel
theorem dX12_feed_30 : decode cX12_feed 30 = .ok (.aload_n 0, 1) := by decide +kernel
theorem dX12_feed_31 : decode cX12_feed 31 = .ok (.iload 4, 2) := by decide +kernel
theorem dX12_feed_33 : decode cX12_feed 33 = .ok (.invokevirtual 150, 3) := by decide +kernel
theorem dX12_feed_36 : decode cX12_feed 36 = .ok (.aload_n 0, 1) := by decide +kernel
theorem dX12_feed_37 : decode cX12_feed 37 = .ok (.iload 5, 2) := by decide +kernel
theorem dX12_feed_39 : decode cX12_feed 39 = .ok (.invokevirtual 150, 3) := by decide +kernel
theorem dX12_feed_42 : decode cX12_feed 42 = .ok (.aload_n 0, 1) := by decide +kernel
theorem dX12_feed_43 : decode cX12_feed 43 = .ok (.getfield 147, 3) := by decide +kernel
theorem dX12_feed_46 : decode cX12_feed 46 = .ok (.ireturn, 1) := by decide +kernel
theorem dX12_put_0 : decode cX12_put 0 = .ok (.bipush 24, 2) := by decide +kernel
theorem dX12_put_2 : decode cX12_put 2 = .ok (.istore_n 2, 1) := by decide +kernel
theorem dX12_put_3 : decode cX12_put 3 = .ok (.iload_n 2, 1) := by decide +kernel
theorem dX12_put_4 : decode cX12_put 4 = .ok (.ifCond .lt 32, 3) := by decide +kernel
theorem dX12_put_7 : decode cX12_put 7 = .ok (.aload_n 0, 1) := by decide +kernel
theorem dX12_put_8 : decode cX12_put 8 = .ok (.getfield 9, 3) := by decide +kernel
theorem dX12_put_11 : decode cX12_put 11 = .ok (.aload_n 0, 1) := by decide +kernel
theorem dX12_put_12 : decode cX12_put 12 = .ok (.getfield 147, 3) := by decide +kernel
theorem dX12_put_15 : decode cX12_put 15 = .ok (.iload_n 1, 1) := by decide +kernel
theorem dX12_put_16 : decode cX12_put 16 = .ok (.iload_n 2, 1) := by decide +kernel
theorem dX12_put_17 : decode cX12_put 17 = .ok (.ishr, 1) := by decide +kernel
theorem dX12_put_18 : decode cX12_put 18 = .ok (.i2b, 1) := by decide +kernel
theorem dX12_put_19 : decode cX12_put 19 = .ok (.bastore, 1) := by decide +kernel
theorem dX12_put_20 : decode cX12_put 20 = .ok (.aload_n 0, 1) := by decide +kernel
theorem dX12_put_21 : decode cX12_put 21 = .ok (.dup, 1) := by decide +kernel
theorem dX12_put_22 : decode cX12_put 22 = .ok (.getfield 147, 3) := by decide +kernel
theorem dX12_put_25 : decode cX12_put 25 = .ok (.iconst 1, 1) := by decide +kernel
theorem dX12_put_26 : decode cX12_put 26 = .ok (.iadd, 1) := by decide +kernel
theorem dX12_put_27 : decode cX12_put 27 = .ok (.putfield 147, 3) := by decide +kernel
theorem dX12_put_30 : decode cX12_put 30 = .ok (.iinc 2 (-8), 3) := by decide +kernel
theorem dX12_put_33 : decode cX12_put 33 = .ok (.goto (-30), 3) := by decide +kernel
theorem dX12_put_36 : decode cX12_put 36 = .ok (.return_, 1) := by decide +kernel
theorem dX12_end_0 : decode cX12_end 0 = .ok (.iload_n 1, 1) := by decide +kernel
theorem dX12_end_1 : decode cX12_end 1 = .ok (.ifCond .lt 11, 3) := by decide +kernel
theorem dX12_end_4 : decode cX12_end 4 = .ok (.iload_n 1, 1) := by decide +kernel
theorem dX12_end_5 : decode cX12_end 5 = .ok (.aload_n 0, 1) := by decide +kernel
theorem dX12_end_6 : decode cX12_end 6 = .ok (.getfield 147, 3) := by decide +kernel
theorem dX12_end_9 : decode cX12_end 9 = .ok (.if_icmp .le 5, 3) := by decide +kernel
theorem dX12_end_12 : decode cX12_end 12 = .ok (.iconst (-1), 1) := by decide +kernel
theorem dX12_end_13 : decode cX12_end 13 = .ok (.ireturn, 1) := by decide +kernel
theorem dX12_end_14 : decode cX12_end 14 = .ok (.aload_n 0, 1) := by decide +kernel
theorem dX12_end_15 : decode cX12_end 15 = .ok (.iload_n 1, 1) := by decide +kernel
theorem dX12_end_16 : decode cX12_end 16 = .ok (.putfield 147, 3) := by decide +kernel
theorem dX12_end_19 : decode cX12_end 19 = .ok (.iload_n 1, 1) := by decide +kernel
theorem dX12_end_20 : decode cX12_end 20 = .ok (.ireturn, 1) := by decide +kernel
theorem dX12_wordOf_0 : decode cX12_wordOf 0 = .ok (.aload_n 0, 1) := by decide +kernel
theorem dX12_wordOf_1 : decode cX12_wordOf 1 = .ok (.getfield 153, 3) := by decide +kernel
theorem dX12_wordOf_4 : decode cX12_wordOf 4 = .ok (.iconst 1, 1) := by decide +kernel
theorem dX12_wordOf_5 : decode cX12_wordOf 5 = .ok (.if_icmp .le 10, 3) := by decide +kernel
theorem dX12_wordOf_8 : decode cX12_wordOf 8 = .ok (.iload_n 1, 1) := by decide +kernel
theorem dX12_wordOf_9 : decode cX12_wordOf 9 = .ok (.invokestatic 156, 3) := by decide +kernel
theorem dX12_wordOf_12 : decode cX12_wordOf 12 = .ok (.goto 24, 3) := by decide +kernel
theorem dX12_wordOf_15 : decode cX12_wordOf 15 = .ok (.iload_n 1, 1) := by decide +kernel
theorem dX12_wordOf_16 : decode cX12_wordOf 16 = .ok (.ifCond .ne 8, 3) := by decide +kernel
theorem dX12_wordOf_19 : decode cX12_wordOf 19 = .ok (.ldc 160, 2) := by decide +kernel
theorem dX12_wordOf_21 : decode cX12_wordOf 21 = .ok (.goto 15, 3) := by decide +kernel
theorem dX12_wordOf_24 : decode cX12_wordOf 24 = .ok (.iload_n 1, 1) := by decide +kernel
theorem dX12_wordOf_25 : decode cX12_wordOf 25 = .ok (.iconst 1, 1) := by decide +kernel
theorem dX12_wordOf_26 : decode cX12_wordOf 26 = .ok (.if_icmp .ne 8, 3) := by decide +kernel
theorem dX12_wordOf_29 : decode cX12_wordOf 29 = .ok (.ldc 162, 2) := by decide +kernel
theorem dX12_wordOf_31 : decode cX12_wordOf 31 = .ok (.goto 5, 3) := by decide +kernel
theorem dX12_wordOf_34 : decode cX12_wordOf 34 = .ok (.ldc 164, 2) := by decide +kernel
theorem dX12_wordOf_36 : decode cX12_wordOf 36 = .ok (.areturn, 1) := by decide +kernel
theorem dX12_ruleWord_0 : decode cX12_ruleWord 0 = .ok (.iload_n 0, 1) := by decide +kernel
set_option maxRecDepth 20000 in
theorem dX12_ruleWord_1 : decode cX12_ruleWord 1 = .ok (.tableswitch 71 0 7 #[47, 50, 53, 56, 59, 62, 65, 68], 47) := by decide +kernel
theorem dX12_ruleWord_48 : decode cX12_ruleWord 48 = .ok (.ldc 166, 2) := by decide +kernel
theorem dX12_ruleWord_50 : decode cX12_ruleWord 50 = .ok (.areturn, 1) := by decide +kernel
theorem dX12_ruleWord_51 : decode cX12_ruleWord 51 = .ok (.ldc 168, 2) := by decide +kernel
theorem dX12_ruleWord_53 : decode cX12_ruleWord 53 = .ok (.areturn, 1) := by decide +kernel
theorem dX12_ruleWord_54 : decode cX12_ruleWord 54 = .ok (.ldc 169, 2) := by decide +kernel
theorem dX12_ruleWord_56 : decode cX12_ruleWord 56 = .ok (.areturn, 1) := by decide +kernel
theorem dX12_ruleWord_57 : decode cX12_ruleWord 57 = .ok (.ldc 171, 2) := by decide +kernel
theorem dX12_ruleWord_59 : decode cX12_ruleWord 59 = .ok (.areturn, 1) := by decide +kernel
theorem dX12_ruleWord_60 : decode cX12_ruleWord 60 = .ok (.ldc 173, 2) := by decide +kernel
theorem dX12_ruleWord_62 : decode cX12_ruleWord 62 = .ok (.areturn, 1) := by decide +kernel
theorem dX12_ruleWord_63 : decode cX12_ruleWord 63 = .ok (.ldc 160, 2) := by decide +kernel
theorem dX12_ruleWord_65 : decode cX12_ruleWord 65 = .ok (.areturn, 1) := by decide +kernel
theorem dX12_ruleWord_66 : decode cX12_ruleWord 66 = .ok (.ldc 174, 2) := by decide +kernel
theorem dX12_ruleWord_68 : decode cX12_ruleWord 68 = .ok (.areturn, 1) := by decide +kernel
theorem dX12_ruleWord_69 : decode cX12_ruleWord 69 = .ok (.ldc 162, 2) := by decide +kernel
theorem dX12_ruleWord_71 : decode cX12_ruleWord 71 = .ok (.areturn, 1) := by decide +kernel
theorem dX12_ruleWord_72 : decode cX12_ruleWord 72 = .ok (.ldc 164, 2) := by decide +kernel
theorem dX12_ruleWord_74 : decode cX12_ruleWord 74 = .ok (.areturn, 1) := by decide +kernel
theorem dX12_clauseOf_0 : decode cX12_clauseOf 0 = .ok (.iload_n 0, 1) := by decide +kernel
set_option maxRecDepth 20000 in
theorem dX12_clauseOf_1 : decode cX12_clauseOf 1 = .ok (.tableswitch 57 0 5 #[39, 42, 45, 48, 51, 54], 39) := by decide +kernel
theorem dX12_clauseOf_40 : decode cX12_clauseOf 40 = .ok (.ldc 175, 2) := by decide +kernel
theorem dX12_clauseOf_42 : decode cX12_clauseOf 42 = .ok (.areturn, 1) := by decide +kernel
theorem dX12_clauseOf_43 : decode cX12_clauseOf 43 = .ok (.ldc 177, 2) := by decide +kernel
theorem dX12_clauseOf_45 : decode cX12_clauseOf 45 = .ok (.areturn, 1) := by decide +kernel
theorem dX12_clauseOf_46 : decode cX12_clauseOf 46 = .ok (.ldc 179, 2) := by decide +kernel
theorem dX12_clauseOf_48 : decode cX12_clauseOf 48 = .ok (.areturn, 1) := by decide +kernel
theorem dX12_clauseOf_49 : decode cX12_clauseOf 49 = .ok (.ldc 181, 2) := by decide +kernel
theorem dX12_clauseOf_51 : decode cX12_clauseOf 51 = .ok (.areturn, 1) := by decide +kernel
theorem dX12_clauseOf_52 : decode cX12_clauseOf 52 = .ok (.ldc 182, 2) := by decide +kernel
theorem dX12_clauseOf_54 : decode cX12_clauseOf 54 = .ok (.areturn, 1) := by decide +kernel
theorem dX12_clauseOf_55 : decode cX12_clauseOf 55 = .ok (.ldc 174, 2) := by decide +kernel
theorem dX12_clauseOf_57 : decode cX12_clauseOf 57 = .ok (.areturn, 1) := by decide +kernel
theorem dX12_clauseOf_58 : decode cX12_clauseOf 58 = .ok (.ldc 183, 2) := by decide +kernel
theorem dX12_clauseOf_60 : decode cX12_clauseOf 60 = .ok (.areturn, 1) := by decide +kernel
theorem dX12_extraOf_0 : decode cX12_extraOf 0 = .ok (.iload_n 0, 1) := by decide +kernel
theorem dX12_extraOf_1 : decode cX12_extraOf 1 = .ok (.ifCond .ne 8, 3) := by decide +kernel
theorem dX12_extraOf_4 : decode cX12_extraOf 4 = .ok (.ldc 184, 2) := by decide +kernel
theorem dX12_extraOf_6 : decode cX12_extraOf 6 = .ok (.goto 25, 3) := by decide +kernel
theorem dX12_extraOf_9 : decode cX12_extraOf 9 = .ok (.iload_n 0, 1) := by decide +kernel
theorem dX12_extraOf_10 : decode cX12_extraOf 10 = .ok (.iconst 1, 1) := by decide +kernel
theorem dX12_extraOf_11 : decode cX12_extraOf 11 = .ok (.if_icmp .ne 8, 3) := by decide +kernel
theorem dX12_extraOf_14 : decode cX12_extraOf 14 = .ok (.ldc 185, 2) := by decide +kernel
theorem dX12_extraOf_16 : decode cX12_extraOf 16 = .ok (.goto 15, 3) := by decide +kernel
theorem dX12_extraOf_19 : decode cX12_extraOf 19 = .ok (.iload_n 0, 1) := by decide +kernel
theorem dX12_extraOf_20 : decode cX12_extraOf 20 = .ok (.iconst 2, 1) := by decide +kernel
theorem dX12_extraOf_21 : decode cX12_extraOf 21 = .ok (.if_icmp .ne 8, 3) := by decide +kernel
theorem dX12_extraOf_24 : decode cX12_extraOf 24 = .ok (.ldc 186, 2) := by decide +kernel
theorem dX12_extraOf_26 : decode cX12_extraOf 26 = .ok (.goto 5, 3) := by decide +kernel
theorem dX12_extraOf_29 : decode cX12_extraOf 29 = .ok (.ldc 173, 2) := by decide +kernel
theorem dX12_extraOf_31 : decode cX12_extraOf 31 = .ok (.areturn, 1) := by decide +kernel
theorem dX12_fails_0 : decode cX12_fails 0 = .ok (.aload_n 0, 1) := by decide +kernel
theorem dX12_fails_1 : decode cX12_fails 1 = .ok (.aload_n 0, 1) := by decide +kernel
theorem dX12_fails_2 : decode cX12_fails 2 = .ok (.getfield 187, 3) := by decide +kernel
theorem dX12_fails_5 : decode cX12_fails 5 = .ok (.ifCond .ne 14, 3) := by decide +kernel
theorem dX12_fails_8 : decode cX12_fails 8 = .ok (.iconst 1, 1) := by decide +kernel
theorem dX12_fails_9 : decode cX12_fails 9 = .ok (.bipush 8, 2) := by decide +kernel
theorem dX12_fails_11 : decode cX12_fails 11 = .ok (.iload_n 2, 1) := by decide +kernel
theorem dX12_fails_12 : decode cX12_fails 12 = .ok (.imul, 1) := by decide +kernel
theorem dX12_fails_13 : decode cX12_fails 13 = .ok (.iadd, 1) := by decide +kernel
theorem dX12_fails_14 : decode cX12_fails 14 = .ok (.iload_n 1, 1) := by decide +kernel
theorem dX12_fails_15 : decode cX12_fails 15 = .ok (.iadd, 1) := by decide +kernel
theorem dX12_fails_16 : decode cX12_fails 16 = .ok (.goto 7, 3) := by decide +kernel
theorem dX12_fails_19 : decode cX12_fails 19 = .ok (.aload_n 0, 1) := by decide +kernel
theorem dX12_fails_20 : decode cX12_fails 20 = .ok (.getfield 187, 3) := by decide +kernel
theorem dX12_fails_23 : decode cX12_fails 23 = .ok (.putfield 187, 3) := by decide +kernel
theorem dX12_fails_26 : decode cX12_fails 26 = .ok (.return_, 1) := by decide +kernel
theorem dX12_sign_0 : decode cX12_sign 0 = .ok (.aload_n 0, 1) := by decide +kernel
theorem dX12_sign_1 : decode cX12_sign 1 = .ok (.getfield 190, 3) := by decide +kernel
theorem dX12_sign_4 : decode cX12_sign 4 = .ok (.aload_n 0, 1) := by decide +kernel
theorem dX12_sign_5 : decode cX12_sign 5 = .ok (.getfield 147, 3) := by decide +kernel
theorem dX12_sign_8 : decode cX12_sign 8 = .ok (.if_icmp .ge 19, 3) := by decide +kernel
theorem dX12_sign_11 : decode cX12_sign 11 = .ok (.aload_n 0, 1) := by decide +kernel
theorem dX12_sign_12 : decode cX12_sign 12 = .ok (.getfield 9, 3) := by decide +kernel
theorem dX12_sign_15 : decode cX12_sign 15 = .ok (.aload_n 0, 1) := by decide +kernel
theorem dX12_sign_16 : decode cX12_sign 16 = .ok (.getfield 190, 3) := by decide +kernel
theorem dX12_sign_19 : decode cX12_sign 19 = .ok (.baload, 1) := by decide +kernel
theorem dX12_sign_20 : decode cX12_sign 20 = .ok (.sipush 255, 3) := by decide +kernel
theorem dX12_sign_23 : decode cX12_sign 23 = .ok (.iand, 1) := by decide +kernel
theorem dX12_sign_24 : decode cX12_sign 24 = .ok (.goto 4, 3) := by decide +kernel
theorem dX12_sign_27 : decode cX12_sign 27 = .ok (.iconst (-1), 1) := by decide +kernel
theorem dX12_sign_28 : decode cX12_sign 28 = .ok (.ireturn, 1) := by decide +kernel
theorem dX12_blanks_0 : decode cX12_blanks 0 = .ok (.aload_n 0, 1) := by decide +kernel
theorem dX12_blanks_1 : decode cX12_blanks 1 = .ok (.invokevirtual 193, 3) := by decide +kernel
theorem dX12_blanks_4 : decode cX12_blanks 4 = .ok (.bipush 32, 2) := by decide +kernel
theorem dX12_blanks_6 : decode cX12_blanks 6 = .ok (.if_icmp .ne 16, 3) := by decide +kernel
theorem dX12_blanks_9 : decode cX12_blanks 9 = .ok (.aload_n 0, 1) := by decide +kernel
theorem dX12_blanks_10 : decode cX12_blanks 10 = .ok (.dup, 1) := by decide +kernel
theorem dX12_blanks_11 : decode cX12_blanks 11 = .ok (.getfield 190, 3) := by decide +kernel
theorem dX12_blanks_14 : decode cX12_blanks 14 = .ok (.iconst 1, 1) := by decide +kernel
theorem dX12_blanks_15 : decode cX12_blanks 15 = .ok (.iadd, 1) := by decide +kernel
theorem dX12_blanks_16 : decode cX12_blanks 16 = .ok (.putfield 190, 3) := by decide +kernel
theorem dX12_blanks_19 : decode cX12_blanks 19 = .ok (.goto (-19), 3) := by decide +kernel
theorem dX12_blanks_22 : decode cX12_blanks 22 = .ok (.return_, 1) := by decide +kernel
theorem dX12_isDigit_0 : decode cX12_isDigit 0 = .ok (.aload_n 0, 1) := by decide +kernel
theorem dX12_isDigit_1 : decode cX12_isDigit 1 = .ok (.invokevirtual 193, 3) := by decide +kernel
theorem dX12_isDigit_4 : decode cX12_isDigit 4 = .ok (.i2l, 1) := by decide +kernel
theorem dX12_isDigit_5 : decode cX12_isDigit 5 = .ok (.ldc2_w 197, 3) := by decide +kernel
theorem dX12_isDigit_8 : decode cX12_isDigit 8 = .ok (.ldc2_w 199, 3) := by decide +kernel
theorem dX12_isDigit_11 : decode cX12_isDigit 11 = .ok (.invokestatic 201, 3) := by decide +kernel
theorem dX12_isDigit_14 : decode cX12_isDigit 14 = .ok (.ireturn, 1) := by decide +kernel
theorem dX12_stands_0 : decode cX12_stands 0 = .ok (.aload_n 0, 1) := by decide +kernel
theorem dX12_stands_1 : decode cX12_stands 1 = .ok (.getfield 190, 3) := by decide +kernel
theorem dX12_stands_4 : decode cX12_stands 4 = .ok (.istore_n 2, 1) := by decide +kernel
theorem dX12_stands_5 : decode cX12_stands 5 = .ok (.iload_n 2, 1) := by decide +kernel
theorem dX12_stands_6 : decode cX12_stands 6 = .ok (.aload_n 0, 1) := by decide +kernel
theorem dX12_stands_7 : decode cX12_stands 7 = .ok (.getfield 147, 3) := by decide +kernel
theorem dX12_stands_10 : decode cX12_stands 10 = .ok (.if_icmp .ge 31, 3) := by decide +kernel
theorem dX12_stands_13 : decode cX12_stands 13 = .ok (.aload_n 0, 1) := by decide +kernel
theorem dX12_stands_14 : decode cX12_stands 14 = .ok (.getfield 9, 3) := by decide +kernel
theorem dX12_stands_17 : decode cX12_stands 17 = .ok (.iload_n 2, 1) := by decide +kernel
theorem dX12_stands_18 : decode cX12_stands 18 = .ok (.baload, 1) := by decide +kernel
theorem dX12_stands_19 : decode cX12_stands 19 = .ok (.bipush 97, 2) := by decide +kernel
theorem dX12_stands_21 : decode cX12_stands 21 = .ok (.if_icmp .lt 20, 3) := by decide +kernel
theorem dX12_stands_24 : decode cX12_stands 24 = .ok (.aload_n 0, 1) := by decide +kernel
theorem dX12_stands_25 : decode cX12_stands 25 = .ok (.getfield 9, 3) := by decide +kernel
theorem dX12_stands_28 : decode cX12_stands 28 = .ok (.iload_n 2, 1) := by decide +kernel
theorem dX12_stands_29 : decode cX12_stands 29 = .ok (.baload, 1) := by decide +kernel
theorem dX12_stands_30 : decode cX12_stands 30 = .ok (.bipush 122, 2) := by decide +kernel
theorem dX12_stands_32 : decode cX12_stands 32 = .ok (.if_icmp .gt 9, 3) := by decide +kernel
theorem dX12_stands_35 : decode cX12_stands 35 = .ok (.iinc 2 1, 3) := by decide +kernel
theorem dX12_stands_38 : decode cX12_stands 38 = .ok (.goto (-33), 3) := by decide +kernel
theorem dX12_stands_41 : decode cX12_stands 41 = .ok (.iload_n 2, 1) := by decide +kernel
theorem dX12_stands_42 : decode cX12_stands 42 = .ok (.aload_n 0, 1) := by decide +kernel
theorem dX12_stands_43 : decode cX12_stands 43 = .ok (.getfield 190, 3) := by decide +kernel
theorem dX12_stands_46 : decode cX12_stands 46 = .ok (.isub, 1) := by decide +kernel
theorem dX12_stands_47 : decode cX12_stands 47 = .ok (.aload_n 1, 1) := by decide +kernel
theorem dX12_stands_48 : decode cX12_stands 48 = .ok (.invokevirtual 204, 3) := by decide +kernel
theorem dX12_stands_51 : decode cX12_stands 51 = .ok (.if_icmp .ne 7, 3) := by decide +kernel
theorem dX12_stands_54 : decode cX12_stands 54 = .ok (.iconst 1, 1) := by decide +kernel
theorem dX12_stands_55 : decode cX12_stands 55 = .ok (.goto 4, 3) := by decide +kernel
theorem dX12_stands_58 : decode cX12_stands 58 = .ok (.iconst 0, 1) := by decide +kernel
theorem dX12_stands_59 : decode cX12_stands 59 = .ok (.istore_n 3, 1) := by decide +kernel
theorem dX12_stands_60 : decode cX12_stands 60 = .ok (.iconst 0, 1) := by decide +kernel
theorem dX12_stands_61 : decode cX12_stands 61 = .ok (.istore 4, 2) := by decide +kernel
theorem dX12_stands_63 : decode cX12_stands 63 = .ok (.iload 4, 2) := by decide +kernel
theorem dX12_stands_65 : decode cX12_stands 65 = .ok (.aload_n 1, 1) := by decide +kernel
theorem dX12_stands_66 : decode cX12_stands 66 = .ok (.invokevirtual 204, 3) := by decide +kernel
theorem dX12_stands_69 : decode cX12_stands 69 = .ok (.if_icmp .ge 40, 3) := by decide +kernel
theorem dX12_stands_72 : decode cX12_stands 72 = .ok (.iload_n 3, 1) := by decide +kernel
theorem dX12_stands_73 : decode cX12_stands 73 = .ok (.ifCond .eq 36, 3) := by decide +kernel
theorem dX12_stands_76 : decode cX12_stands 76 = .ok (.aload_n 0, 1) := by decide +kernel
theorem dX12_stands_77 : decode cX12_stands 77 = .ok (.getfield 9, 3) := by decide +kernel
theorem dX12_stands_80 : decode cX12_stands 80 = .ok (.aload_n 0, 1) := by decide +kernel
theorem dX12_stands_81 : decode cX12_stands 81 = .ok (.getfield 190, 3) := by decide +kernel
theorem dX12_stands_84 : decode cX12_stands 84 = .ok (.iload 4, 2) := by decide +kernel
theorem dX12_stands_86 : decode cX12_stands 86 = .ok (.iadd, 1) := by decide +kernel
theorem dX12_stands_87 : decode cX12_stands 87 = .ok (.baload, 1) := by decide +kernel
theorem dX12_stands_88 : decode cX12_stands 88 = .ok (.aload_n 1, 1) := by decide +kernel
theorem dX12_stands_89 : decode cX12_stands 89 = .ok (.iload 4, 2) := by decide +kernel
theorem dX12_stands_91 : decode cX12_stands 91 = .ok (.invokevirtual 209, 3) := by decide +kernel
theorem dX12_stands_94 : decode cX12_stands 94 = .ok (.if_icmp .ne 7, 3) := by decide +kernel
theorem dX12_stands_97 : decode cX12_stands 97 = .ok (.iconst 1, 1) := by decide +kernel
theorem dX12_stands_98 : decode cX12_stands 98 = .ok (.goto 4, 3) := by decide +kernel
theorem dX12_stands_101 : decode cX12_stands 101 = .ok (.iconst 0, 1) := by decide +kernel
theorem dX12_stands_102 : decode cX12_stands 102 = .ok (.istore_n 3, 1) := by decide +kernel
theorem dX12_stands_103 : decode cX12_stands 103 = .ok (.iinc 4 1, 3) := by decide +kernel
theorem dX12_stands_106 : decode cX12_stands 106 = .ok (.goto (-43), 3) := by decide +kernel
theorem dX12_stands_109 : decode cX12_stands 109 = .ok (.iload_n 3, 1) := by decide +kernel
theorem dX12_stands_110 : decode cX12_stands 110 = .ok (.ireturn, 1) := by decide +kernel
theorem dX12_takes_0 : decode cX12_takes 0 = .ok (.aload_n 0, 1) := by decide +kernel
theorem dX12_takes_1 : decode cX12_takes 1 = .ok (.invokevirtual 213, 3) := by decide +kernel
theorem dX12_takes_4 : decode cX12_takes 4 = .ok (.aload_n 0, 1) := by decide +kernel
theorem dX12_takes_5 : decode cX12_takes 5 = .ok (.aload_n 1, 1) := by decide +kernel
theorem dX12_takes_6 : decode cX12_takes 6 = .ok (.invokevirtual 216, 3) := by decide +kernel
theorem dX12_takes_9 : decode cX12_takes 9 = .ok (.istore_n 2, 1) := by decide +kernel
theorem dX12_takes_10 : decode cX12_takes 10 = .ok (.aload_n 0, 1) := by decide +kernel
theorem dX12_takes_11 : decode cX12_takes 11 = .ok (.dup, 1) := by decide +kernel
theorem dX12_takes_12 : decode cX12_takes 12 = .ok (.getfield 190, 3) := by decide +kernel
theorem dX12_takes_15 : decode cX12_takes 15 = .ok (.iload_n 2, 1) := by decide +kernel
theorem dX12_takes_16 : decode cX12_takes 16 = .ok (.ifCond .eq 10, 3) := by decide +kernel
theorem dX12_takes_19 : decode cX12_takes 19 = .ok (.aload_n 1, 1) := by decide +kernel
theorem dX12_takes_20 : decode cX12_takes 20 = .ok (.invokevirtual 204, 3) := by decide +kernel
theorem dX12_takes_23 : decode cX12_takes 23 = .ok (.goto 4, 3) := by decide +kernel
theorem dX12_takes_26 : decode cX12_takes 26 = .ok (.iconst 0, 1) := by decide +kernel
theorem dX12_takes_27 : decode cX12_takes 27 = .ok (.iadd, 1) := by decide +kernel
theorem dX12_takes_28 : decode cX12_takes 28 = .ok (.putfield 190, 3) := by decide +kernel
theorem dX12_takes_31 : decode cX12_takes 31 = .ok (.iload_n 2, 1) := by decide +kernel
theorem dX12_takes_32 : decode cX12_takes 32 = .ok (.ireturn, 1) := by decide +kernel
theorem dX12_entry_0 : decode cX12_entry 0 = .ok (.aload_n 0, 1) := by decide +kernel
theorem dX12_entry_1 : decode cX12_entry 1 = .ok (.getfield 187, 3) := by decide +kernel
theorem dX12_entry_4 : decode cX12_entry 4 = .ok (.ifCond .ne 51, 3) := by decide +kernel
theorem dX12_entry_7 : decode cX12_entry 7 = .ok (.aload_n 0, 1) := by decide +kernel
theorem dX12_entry_8 : decode cX12_entry 8 = .ok (.getfield 13, 3) := by decide +kernel
theorem dX12_entry_11 : decode cX12_entry 11 = .ok (.sipush 300, 3) := by decide +kernel
theorem dX12_entry_14 : decode cX12_entry 14 = .ok (.aload_n 0, 1) := by decide +kernel
theorem dX12_entry_15 : decode cX12_entry 15 = .ok (.getfield 153, 3) := by decide +kernel
theorem dX12_entry_18 : decode cX12_entry 18 = .ok (.imul, 1) := by decide +kernel
theorem dX12_entry_19 : decode cX12_entry 19 = .ok (.aload_n 0, 1) := by decide +kernel
theorem dX12_entry_20 : decode cX12_entry 20 = .ok (.getfield 220, 3) := by decide +kernel
theorem dX12_entry_23 : decode cX12_entry 23 = .ok (.iadd, 1) := by decide +kernel
theorem dX12_entry_24 : decode cX12_entry 24 = .ok (.iload_n 1, 1) := by decide +kernel
theorem dX12_entry_25 : decode cX12_entry 25 = .ok (.iastore, 1) := by decide +kernel
theorem dX12_entry_26 : decode cX12_entry 26 = .ok (.aload_n 0, 1) := by decide +kernel
theorem dX12_entry_27 : decode cX12_entry 27 = .ok (.getfield 17, 3) := by decide +kernel
theorem dX12_entry_30 : decode cX12_entry 30 = .ok (.sipush 300, 3) := by decide +kernel
theorem dX12_entry_33 : decode cX12_entry 33 = .ok (.aload_n 0, 1) := by decide +kernel
theorem dX12_entry_34 : decode cX12_entry 34 = .ok (.getfield 153, 3) := by decide +kernel
theorem dX12_entry_37 : decode cX12_entry 37 = .ok (.imul, 1) := by decide +kernel
theorem dX12_entry_38 : decode cX12_entry 38 = .ok (.aload_n 0, 1) := by decide +kernel
theorem dX12_entry_39 : decode cX12_entry 39 = .ok (.getfield 220, 3) := by decide +kernel
theorem dX12_entry_42 : decode cX12_entry 42 = .ok (.iadd, 1) := by decide +kernel
theorem dX12_entry_43 : decode cX12_entry 43 = .ok (.iload_n 2, 1) := by decide +kernel
theorem dX12_entry_44 : decode cX12_entry 44 = .ok (.iastore, 1) := by decide +kernel
theorem dX12_entry_45 : decode cX12_entry 45 = .ok (.aload_n 0, 1) := by decide +kernel
theorem dX12_entry_46 : decode cX12_entry 46 = .ok (.dup, 1) := by decide +kernel
theorem dX12_entry_47 : decode cX12_entry 47 = .ok (.getfield 220, 3) := by decide +kernel
theorem dX12_entry_50 : decode cX12_entry 50 = .ok (.iconst 1, 1) := by decide +kernel
theorem dX12_entry_51 : decode cX12_entry 51 = .ok (.iadd, 1) := by decide +kernel
theorem dX12_entry_52 : decode cX12_entry 52 = .ok (.putfield 220, 3) := by decide +kernel
theorem dX12_entry_55 : decode cX12_entry 55 = .ok (.return_, 1) := by decide +kernel
theorem dX12_isCounted_0 : decode cX12_isCounted 0 = .ok (.aload_n 0, 1) := by decide +kernel
theorem dX12_isCounted_1 : decode cX12_isCounted 1 = .ok (.getfield 223, 3) := by decide +kernel
theorem dX12_isCounted_4 : decode cX12_isCounted 4 = .ok (.bipush 60, 2) := by decide +kernel
theorem dX12_isCounted_6 : decode cX12_isCounted 6 = .ok (.if_icmp .ne 9, 3) := by decide +kernel
theorem dX12_isCounted_9 : decode cX12_isCounted 9 = .ok (.aload_n 0, 1) := by decide +kernel
theorem dX12_isCounted_10 : decode cX12_isCounted 10 = .ok (.iconst 3, 1) := by decide +kernel
theorem dX12_isCounted_11 : decode cX12_isCounted 11 = .ok (.iload_n 1, 1) := by decide +kernel
theorem dX12_isCounted_12 : decode cX12_isCounted 12 = .ok (.invokevirtual 226, 3) := by decide +kernel
theorem dX12_isCounted_15 : decode cX12_isCounted 15 = .ok (.aload_n 0, 1) := by decide +kernel
theorem dX12_isCounted_16 : decode cX12_isCounted 16 = .ok (.dup, 1) := by decide +kernel
theorem dX12_isCounted_17 : decode cX12_isCounted 17 = .ok (.getfield 223, 3) := by decide +kernel
theorem dX12_isCounted_20 : decode cX12_isCounted 20 = .ok (.iconst 1, 1) := by decide +kernel
theorem dX12_isCounted_21 : decode cX12_isCounted 21 = .ok (.iadd, 1) := by decide +kernel
theorem dX12_isCounted_22 : decode cX12_isCounted 22 = .ok (.putfield 223, 3) := by decide +kernel
theorem dX12_isCounted_25 : decode cX12_isCounted 25 = .ok (.return_, 1) := by decide +kernel
theorem dX12_digits_0 : decode cX12_digits 0 = .ok (.aload_n 0, 1) := by decide +kernel
theorem dX12_digits_1 : decode cX12_digits 1 = .ok (.invokevirtual 230, 3) := by decide +kernel
theorem dX12_digits_4 : decode cX12_digits 4 = .ok (.ifCond .ne 14, 3) := by decide +kernel
theorem dX12_digits_7 : decode cX12_digits 7 = .ok (.aload_n 0, 1) := by decide +kernel
theorem dX12_digits_8 : decode cX12_digits 8 = .ok (.iconst 0, 1) := by decide +kernel
theorem dX12_digits_9 : decode cX12_digits 9 = .ok (.aload_n 0, 1) := by decide +kernel
theorem dX12_digits_10 : decode cX12_digits 10 = .ok (.getfield 190, 3) := by decide +kernel
theorem dX12_digits_13 : decode cX12_digits 13 = .ok (.invokevirtual 226, 3) := by decide +kernel
theorem dX12_digits_16 : decode cX12_digits 16 = .ok (.iconst 0, 1) := by decide +kernel
theorem dX12_digits_17 : decode cX12_digits 17 = .ok (.ireturn, 1) := by decide +kernel
theorem dX12_digits_18 : decode cX12_digits 18 = .ok (.aload_n 0, 1) := by decide +kernel
theorem dX12_digits_19 : decode cX12_digits 19 = .ok (.getfield 190, 3) := by decide +kernel
theorem dX12_digits_22 : decode cX12_digits 22 = .ok (.istore_n 2, 1) := by decide +kernel
theorem dX12_digits_23 : decode cX12_digits 23 = .ok (.iconst 0, 1) := by decide +kernel
theorem dX12_digits_24 : decode cX12_digits 24 = .ok (.istore_n 3, 1) := by decide +kernel
theorem dX12_digits_25 : decode cX12_digits 25 = .ok (.aload_n 0, 1) := by decide +kernel
theorem dX12_digits_26 : decode cX12_digits 26 = .ok (.invokevirtual 230, 3) := by decide +kernel
theorem dX12_digits_29 : decode cX12_digits 29 = .ok (.ifCond .eq 43, 3) := by decide +kernel
theorem dX12_digits_32 : decode cX12_digits 32 = .ok (.aload_n 0, 1) := by decide +kernel
theorem dX12_digits_33 : decode cX12_digits 33 = .ok (.getfield 190, 3) := by decide +kernel
theorem dX12_digits_36 : decode cX12_digits 36 = .ok (.iload_n 2, 1) := by decide +kernel
theorem dX12_digits_37 : decode cX12_digits 37 = .ok (.isub, 1) := by decide +kernel
theorem dX12_digits_38 : decode cX12_digits 38 = .ok (.iconst 5, 1) := by decide +kernel
theorem dX12_digits_39 : decode cX12_digits 39 = .ok (.if_icmp .ge 18, 3) := by decide +kernel
theorem dX12_digits_42 : decode cX12_digits 42 = .ok (.bipush 10, 2) := by decide +kernel
theorem dX12_digits_44 : decode cX12_digits 44 = .ok (.iload_n 3, 1) := by decide +kernel
theorem dX12_digits_45 : decode cX12_digits 45 = .ok (.imul, 1) := by decide +kernel
theorem dX12_digits_46 : decode cX12_digits 46 = .ok (.aload_n 0, 1) := by decide +kernel
theorem dX12_digits_47 : decode cX12_digits 47 = .ok (.invokevirtual 193, 3) := by decide +kernel
theorem dX12_digits_50 : decode cX12_digits 50 = .ok (.iadd, 1) := by decide +kernel
theorem dX12_digits_51 : decode cX12_digits 51 = .ok (.bipush 48, 2) := by decide +kernel
theorem dX12_digits_53 : decode cX12_digits 53 = .ok (.isub, 1) := by decide +kernel
theorem dX12_digits_54 : decode cX12_digits 54 = .ok (.goto 4, 3) := by decide +kernel
theorem dX12_digits_57 : decode cX12_digits 57 = .ok (.iload_n 3, 1) := by decide +kernel
theorem dX12_digits_58 : decode cX12_digits 58 = .ok (.istore_n 3, 1) := by decide +kernel
theorem dX12_digits_59 : decode cX12_digits 59 = .ok (.aload_n 0, 1) := by decide +kernel
theorem dX12_digits_60 : decode cX12_digits 60 = .ok (.dup, 1) := by decide +kernel
theorem dX12_digits_61 : decode cX12_digits 61 = .ok (.getfield 190, 3) := by decide +kernel
theorem dX12_digits_64 : decode cX12_digits 64 = .ok (.iconst 1, 1) := by decide +kernel
theorem dX12_digits_65 : decode cX12_digits 65 = .ok (.iadd, 1) := by decide +kernel
theorem dX12_digits_66 : decode cX12_digits 66 = .ok (.putfield 190, 3) := by decide +kernel
theorem dX12_digits_69 : decode cX12_digits 69 = .ok (.goto (-44), 3) := by decide +kernel
theorem dX12_digits_72 : decode cX12_digits 72 = .ok (.aload_n 0, 1) := by decide +kernel
theorem dX12_digits_73 : decode cX12_digits 73 = .ok (.getfield 190, 3) := by decide +kernel
theorem dX12_digits_76 : decode cX12_digits 76 = .ok (.iload_n 2, 1) := by decide +kernel
theorem dX12_digits_77 : decode cX12_digits 77 = .ok (.isub, 1) := by decide +kernel
theorem dX12_digits_78 : decode cX12_digits 78 = .ok (.iconst 5, 1) := by decide +kernel
theorem dX12_digits_79 : decode cX12_digits 79 = .ok (.if_icmp .gt 8, 3) := by decide +kernel
theorem dX12_digits_82 : decode cX12_digits 82 = .ok (.iload_n 3, 1) := by decide +kernel
theorem dX12_digits_83 : decode cX12_digits 83 = .ok (.iload_n 1, 1) := by decide +kernel
theorem dX12_digits_84 : decode cX12_digits 84 = .ok (.if_icmp .le 9, 3) := by decide +kernel
theorem dX12_digits_87 : decode cX12_digits 87 = .ok (.aload_n 0, 1) := by decide +kernel
theorem dX12_digits_88 : decode cX12_digits 88 = .ok (.iconst 1, 1) := by decide +kernel
theorem dX12_digits_89 : decode cX12_digits 89 = .ok (.iload_n 2, 1) := by decide +kernel
theorem dX12_digits_90 : decode cX12_digits 90 = .ok (.invokevirtual 226, 3) := by decide +kernel
theorem dX12_digits_93 : decode cX12_digits 93 = .ok (.iload_n 3, 1) := by decide +kernel
theorem dX12_digits_94 : decode cX12_digits 94 = .ok (.ireturn, 1) := by decide +kernel
theorem dX12_value_0 : decode cX12_value 0 = .ok (.aload_n 0, 1) := by decide +kernel
theorem dX12_value_1 : decode cX12_value 1 = .ok (.invokevirtual 213, 3) := by decide +kernel
theorem dX12_value_4 : decode cX12_value 4 = .ok (.aload_n 0, 1) := by decide +kernel
theorem dX12_value_5 : decode cX12_value 5 = .ok (.getfield 190, 3) := by decide +kernel
theorem dX12_value_8 : decode cX12_value 8 = .ok (.istore_n 1, 1) := by decide +kernel
theorem dX12_value_9 : decode cX12_value 9 = .ok (.aload_n 0, 1) := by decide +kernel
theorem dX12_value_10 : decode cX12_value 10 = .ok (.invokevirtual 230, 3) := by decide +kernel
theorem dX12_value_13 : decode cX12_value 13 = .ok (.ifCond .eq 22, 3) := by decide +kernel
theorem dX12_value_16 : decode cX12_value 16 = .ok (.aload_n 0, 1) := by decide +kernel
theorem dX12_value_17 : decode cX12_value 17 = .ok (.ldc 234, 2) := by decide +kernel
theorem dX12_value_19 : decode cX12_value 19 = .ok (.invokevirtual 235, 3) := by decide +kernel
theorem dX12_value_22 : decode cX12_value 22 = .ok (.istore_n 2, 1) := by decide +kernel
theorem dX12_value_23 : decode cX12_value 23 = .ok (.aload_n 0, 1) := by decide +kernel
theorem dX12_value_24 : decode cX12_value 24 = .ok (.iload_n 1, 1) := by decide +kernel
theorem dX12_value_25 : decode cX12_value 25 = .ok (.invokevirtual 239, 3) := by decide +kernel
theorem dX12_value_28 : decode cX12_value 28 = .ok (.aload_n 0, 1) := by decide +kernel
theorem dX12_value_29 : decode cX12_value 29 = .ok (.iconst 0, 1) := by decide +kernel
theorem dX12_value_30 : decode cX12_value 30 = .ok (.iload_n 2, 1) := by decide +kernel
theorem dX12_value_31 : decode cX12_value 31 = .ok (.invokevirtual 242, 3) := by decide +kernel
theorem dX12_value_34 : decode cX12_value 34 = .ok (.return_, 1) := by decide +kernel
theorem dX12_value_35 : decode cX12_value 35 = .ok (.iconst 0, 1) := by decide +kernel
theorem dX12_value_36 : decode cX12_value 36 = .ok (.istore_n 2, 1) := by decide +kernel
theorem dX12_value_37 : decode cX12_value 37 = .ok (.iload_n 2, 1) := by decide +kernel
theorem dX12_value_38 : decode cX12_value 38 = .ok (.aload_n 0, 1) := by decide +kernel
theorem dX12_value_39 : decode cX12_value 39 = .ok (.getfield 245, 3) := by decide +kernel
theorem dX12_value_42 : decode cX12_value 42 = .ok (.if_icmp .ge 21, 3) := by decide +kernel
theorem dX12_value_45 : decode cX12_value 45 = .ok (.aload_n 0, 1) := by decide +kernel
theorem dX12_value_46 : decode cX12_value 46 = .ok (.aload_n 0, 1) := by decide +kernel
theorem dX12_value_47 : decode cX12_value 47 = .ok (.iload_n 2, 1) := by decide +kernel
theorem dX12_value_48 : decode cX12_value 48 = .ok (.invokevirtual 248, 3) := by decide +kernel
theorem dX12_value_51 : decode cX12_value 51 = .ok (.invokevirtual 216, 3) := by decide +kernel
theorem dX12_value_54 : decode cX12_value 54 = .ok (.ifCond .ne 9, 3) := by decide +kernel
theorem dX12_value_57 : decode cX12_value 57 = .ok (.iinc 2 1, 3) := by decide +kernel
theorem dX12_value_60 : decode cX12_value 60 = .ok (.goto (-23), 3) := by decide +kernel
theorem dX12_value_63 : decode cX12_value 63 = .ok (.iload_n 2, 1) := by decide +kernel
theorem dX12_value_64 : decode cX12_value 64 = .ok (.aload_n 0, 1) := by decide +kernel
theorem dX12_value_65 : decode cX12_value 65 = .ok (.getfield 245, 3) := by decide +kernel
theorem dX12_value_68 : decode cX12_value 68 = .ok (.if_icmp .ne 10, 3) := by decide +kernel
theorem dX12_value_71 : decode cX12_value 71 = .ok (.aload_n 0, 1) := by decide +kernel
theorem dX12_value_72 : decode cX12_value 72 = .ok (.iconst 0, 1) := by decide +kernel
theorem dX12_value_73 : decode cX12_value 73 = .ok (.iload_n 1, 1) := by decide +kernel
theorem dX12_value_74 : decode cX12_value 74 = .ok (.invokevirtual 226, 3) := by decide +kernel
theorem dX12_value_77 : decode cX12_value 77 = .ok (.return_, 1) := by decide +kernel
theorem dX12_value_78 : decode cX12_value 78 = .ok (.aload_n 0, 1) := by decide +kernel
theorem dX12_value_79 : decode cX12_value 79 = .ok (.iload_n 1, 1) := by decide +kernel
theorem dX12_value_80 : decode cX12_value 80 = .ok (.invokevirtual 239, 3) := by decide +kernel
theorem dX12_value_83 : decode cX12_value 83 = .ok (.aload_n 0, 1) := by decide +kernel
theorem dX12_value_84 : decode cX12_value 84 = .ok (.dup, 1) := by decide +kernel
theorem dX12_value_85 : decode cX12_value 85 = .ok (.getfield 190, 3) := by decide +kernel
theorem dX12_value_88 : decode cX12_value 88 = .ok (.aload_n 0, 1) := by decide +kernel
theorem dX12_value_89 : decode cX12_value 89 = .ok (.iload_n 2, 1) := by decide +kernel
theorem dX12_value_90 : decode cX12_value 90 = .ok (.invokevirtual 248, 3) := by decide +kernel
theorem dX12_value_93 : decode cX12_value 93 = .ok (.invokevirtual 204, 3) := by decide +kernel
theorem dX12_value_96 : decode cX12_value 96 = .ok (.iadd, 1) := by decide +kernel
theorem dX12_value_97 : decode cX12_value 97 = .ok (.putfield 190, 3) := by decide +kernel
theorem dX12_value_100 : decode cX12_value 100 = .ok (.aload_n 0, 1) := by decide +kernel
theorem dX12_value_101 : decode cX12_value 101 = .ok (.iconst 1, 1) := by decide +kernel
theorem dX12_value_102 : decode cX12_value 102 = .ok (.iload_n 2, 1) := by decide +kernel
theorem dX12_value_103 : decode cX12_value 103 = .ok (.invokevirtual 242, 3) := by decide +kernel
theorem dX12_value_106 : decode cX12_value 106 = .ok (.return_, 1) := by decide +kernel
theorem dX12_term_0 : decode cX12_term 0 = .ok (.aload_n 0, 1) := by decide +kernel
theorem dX12_term_1 : decode cX12_term 1 = .ok (.invokevirtual 251, 3) := by decide +kernel
theorem dX12_term_4 : decode cX12_term 4 = .ok (.aload_n 0, 1) := by decide +kernel
theorem dX12_term_5 : decode cX12_term 5 = .ok (.invokevirtual 213, 3) := by decide +kernel
theorem dX12_term_8 : decode cX12_term 8 = .ok (.aload_n 0, 1) := by decide +kernel
theorem dX12_term_9 : decode cX12_term 9 = .ok (.getfield 187, 3) := by decide +kernel
theorem dX12_term_12 : decode cX12_term 12 = .ok (.ifCond .ne 65, 3) := by decide +kernel
theorem dX12_term_15 : decode cX12_term 15 = .ok (.aload_n 0, 1) := by decide +kernel
theorem dX12_term_16 : decode cX12_term 16 = .ok (.invokevirtual 193, 3) := by decide +kernel
theorem dX12_term_19 : decode cX12_term 19 = .ok (.bipush 42, 2) := by decide +kernel
theorem dX12_term_21 : decode cX12_term 21 = .ok (.if_icmp .eq 12, 3) := by decide +kernel
theorem dX12_term_24 : decode cX12_term 24 = .ok (.aload_n 0, 1) := by decide +kernel
theorem dX12_term_25 : decode cX12_term 25 = .ok (.invokevirtual 193, 3) := by decide +kernel
theorem dX12_term_28 : decode cX12_term 28 = .ok (.bipush 47, 2) := by decide +kernel
theorem dX12_term_30 : decode cX12_term 30 = .ok (.if_icmp .ne 47, 3) := by decide +kernel
theorem dX12_term_33 : decode cX12_term 33 = .ok (.aload_n 0, 1) := by decide +kernel
theorem dX12_term_34 : decode cX12_term 34 = .ok (.invokevirtual 193, 3) := by decide +kernel
theorem dX12_term_37 : decode cX12_term 37 = .ok (.bipush 42, 2) := by decide +kernel
theorem dX12_term_39 : decode cX12_term 39 = .ok (.if_icmp .ne 8, 3) := by decide +kernel
theorem dX12_term_42 : decode cX12_term 42 = .ok (.bipush 13, 2) := by decide +kernel
theorem dX12_term_44 : decode cX12_term 44 = .ok (.goto 5, 3) := by decide +kernel
theorem dX12_term_47 : decode cX12_term 47 = .ok (.bipush 14, 2) := by decide +kernel
theorem dX12_term_49 : decode cX12_term 49 = .ok (.istore_n 1, 1) := by decide +kernel
theorem dX12_term_50 : decode cX12_term 50 = .ok (.aload_n 0, 1) := by decide +kernel
theorem dX12_term_51 : decode cX12_term 51 = .ok (.dup, 1) := by decide +kernel
theorem dX12_term_52 : decode cX12_term 52 = .ok (.getfield 190, 3) := by decide +kernel
theorem dX12_term_55 : decode cX12_term 55 = .ok (.iconst 1, 1) := by decide +kernel
theorem dX12_term_56 : decode cX12_term 56 = .ok (.iadd, 1) := by decide +kernel
theorem dX12_term_57 : decode cX12_term 57 = .ok (.putfield 190, 3) := by decide +kernel
theorem dX12_term_60 : decode cX12_term 60 = .ok (.aload_n 0, 1) := by decide +kernel
theorem dX12_term_61 : decode cX12_term 61 = .ok (.invokevirtual 251, 3) := by decide +kernel
theorem dX12_term_64 : decode cX12_term 64 = .ok (.aload_n 0, 1) := by decide +kernel
theorem dX12_term_65 : decode cX12_term 65 = .ok (.iload_n 1, 1) := by decide +kernel
theorem dX12_term_66 : decode cX12_term 66 = .ok (.iconst 0, 1) := by decide +kernel
theorem dX12_term_67 : decode cX12_term 67 = .ok (.invokevirtual 242, 3) := by decide +kernel
theorem dX12_term_70 : decode cX12_term 70 = .ok (.aload_n 0, 1) := by decide +kernel
theorem dX12_term_71 : decode cX12_term 71 = .ok (.invokevirtual 213, 3) := by decide +kernel
theorem dX12_term_74 : decode cX12_term 74 = .ok (.goto (-66), 3) := by decide +kernel
theorem dX12_term_77 : decode cX12_term 77 = .ok (.return_, 1) := by decide +kernel
theorem dX12_sum_0 : decode cX12_sum 0 = .ok (.aload_n 0, 1) := by decide +kernel
theorem dX12_sum_1 : decode cX12_sum 1 = .ok (.invokevirtual 254, 3) := by decide +kernel
theorem dX12_sum_4 : decode cX12_sum 4 = .ok (.aload_n 0, 1) := by decide +kernel
theorem dX12_sum_5 : decode cX12_sum 5 = .ok (.getfield 187, 3) := by decide +kernel
theorem dX12_sum_8 : decode cX12_sum 8 = .ok (.ifCond .ne 59, 3) := by decide +kernel
theorem dX12_sum_11 : decode cX12_sum 11 = .ok (.aload_n 0, 1) := by decide +kernel
theorem dX12_sum_12 : decode cX12_sum 12 = .ok (.invokevirtual 193, 3) := by decide +kernel
theorem dX12_sum_15 : decode cX12_sum 15 = .ok (.bipush 43, 2) := by decide +kernel
theorem dX12_sum_17 : decode cX12_sum 17 = .ok (.if_icmp .eq 12, 3) := by decide +kernel
theorem dX12_sum_20 : decode cX12_sum 20 = .ok (.aload_n 0, 1) := by decide +kernel
theorem dX12_sum_21 : decode cX12_sum 21 = .ok (.invokevirtual 193, 3) := by decide +kernel
theorem dX12_sum_24 : decode cX12_sum 24 = .ok (.bipush 45, 2) := by decide +kernel
theorem dX12_sum_26 : decode cX12_sum 26 = .ok (.if_icmp .ne 41, 3) := by decide +kernel
theorem dX12_sum_29 : decode cX12_sum 29 = .ok (.aload_n 0, 1) := by decide +kernel
theorem dX12_sum_30 : decode cX12_sum 30 = .ok (.invokevirtual 193, 3) := by decide +kernel
theorem dX12_sum_33 : decode cX12_sum 33 = .ok (.bipush 43, 2) := by decide +kernel
theorem dX12_sum_35 : decode cX12_sum 35 = .ok (.if_icmp .ne 7, 3) := by decide +kernel
theorem dX12_sum_38 : decode cX12_sum 38 = .ok (.iconst 2, 1) := by decide +kernel
theorem dX12_sum_39 : decode cX12_sum 39 = .ok (.goto 4, 3) := by decide +kernel
theorem dX12_sum_42 : decode cX12_sum 42 = .ok (.iconst 3, 1) := by decide +kernel
theorem dX12_sum_43 : decode cX12_sum 43 = .ok (.istore_n 1, 1) := by decide +kernel
theorem dX12_sum_44 : decode cX12_sum 44 = .ok (.aload_n 0, 1) := by decide +kernel
theorem dX12_sum_45 : decode cX12_sum 45 = .ok (.dup, 1) := by decide +kernel
theorem dX12_sum_46 : decode cX12_sum 46 = .ok (.getfield 190, 3) := by decide +kernel
theorem dX12_sum_49 : decode cX12_sum 49 = .ok (.iconst 1, 1) := by decide +kernel
theorem dX12_sum_50 : decode cX12_sum 50 = .ok (.iadd, 1) := by decide +kernel
theorem dX12_sum_51 : decode cX12_sum 51 = .ok (.putfield 190, 3) := by decide +kernel
theorem dX12_sum_54 : decode cX12_sum 54 = .ok (.aload_n 0, 1) := by decide +kernel
theorem dX12_sum_55 : decode cX12_sum 55 = .ok (.invokevirtual 254, 3) := by decide +kernel
theorem dX12_sum_58 : decode cX12_sum 58 = .ok (.aload_n 0, 1) := by decide +kernel
theorem dX12_sum_59 : decode cX12_sum 59 = .ok (.iload_n 1, 1) := by decide +kernel
theorem dX12_sum_60 : decode cX12_sum 60 = .ok (.iconst 0, 1) := by decide +kernel
theorem dX12_sum_61 : decode cX12_sum 61 = .ok (.invokevirtual 242, 3) := by decide +kernel
theorem dX12_sum_64 : decode cX12_sum 64 = .ok (.goto (-60), 3) := by decide +kernel
theorem dX12_sum_67 : decode cX12_sum 67 = .ok (.return_, 1) := by decide +kernel
theorem dX12_compared_0 : decode cX12_compared 0 = .ok (.aload_n 0, 1) := by decide +kernel
theorem dX12_compared_1 : decode cX12_compared 1 = .ok (.invokevirtual 257, 3) := by decide +kernel
theorem dX12_compared_4 : decode cX12_compared 4 = .ok (.aload_n 0, 1) := by decide +kernel
theorem dX12_compared_5 : decode cX12_compared 5 = .ok (.invokevirtual 193, 3) := by decide +kernel
theorem dX12_compared_8 : decode cX12_compared 8 = .ok (.istore_n 1, 1) := by decide +kernel
theorem dX12_compared_9 : decode cX12_compared 9 = .ok (.iload_n 1, 1) := by decide +kernel
theorem dX12_compared_10 : decode cX12_compared 10 = .ok (.bipush 60, 2) := by decide +kernel
theorem dX12_compared_12 : decode cX12_compared 12 = .ok (.if_icmp .eq 25, 3) := by decide +kernel
theorem dX12_compared_15 : decode cX12_compared 15 = .ok (.iload_n 1, 1) := by decide +kernel
theorem dX12_compared_16 : decode cX12_compared 16 = .ok (.bipush 61, 2) := by decide +kernel
theorem dX12_compared_18 : decode cX12_compared 18 = .ok (.if_icmp .eq 19, 3) := by decide +kernel
theorem dX12_compared_21 : decode cX12_compared 21 = .ok (.iload_n 1, 1) := by decide +kernel
theorem dX12_compared_22 : decode cX12_compared 22 = .ok (.bipush 62, 2) := by decide +kernel
theorem dX12_compared_24 : decode cX12_compared 24 = .ok (.if_icmp .eq 13, 3) := by decide +kernel
theorem dX12_compared_27 : decode cX12_compared 27 = .ok (.aload_n 0, 1) := by decide +kernel
theorem dX12_compared_28 : decode cX12_compared 28 = .ok (.iconst 0, 1) := by decide +kernel
theorem dX12_compared_29 : decode cX12_compared 29 = .ok (.aload_n 0, 1) := by decide +kernel
theorem dX12_compared_30 : decode cX12_compared 30 = .ok (.getfield 190, 3) := by decide +kernel
theorem dX12_compared_33 : decode cX12_compared 33 = .ok (.invokevirtual 226, 3) := by decide +kernel
theorem dX12_compared_36 : decode cX12_compared 36 = .ok (.return_, 1) := by decide +kernel
theorem dX12_compared_37 : decode cX12_compared 37 = .ok (.aload_n 0, 1) := by decide +kernel
theorem dX12_compared_38 : decode cX12_compared 38 = .ok (.aload_n 0, 1) := by decide +kernel
theorem dX12_compared_39 : decode cX12_compared 39 = .ok (.getfield 190, 3) := by decide +kernel
theorem dX12_compared_42 : decode cX12_compared 42 = .ok (.invokevirtual 239, 3) := by decide +kernel
theorem dX12_compared_45 : decode cX12_compared 45 = .ok (.aload_n 0, 1) := by decide +kernel
theorem dX12_compared_46 : decode cX12_compared 46 = .ok (.dup, 1) := by decide +kernel
theorem dX12_compared_47 : decode cX12_compared 47 = .ok (.getfield 190, 3) := by decide +kernel
theorem dX12_compared_50 : decode cX12_compared 50 = .ok (.iconst 1, 1) := by decide +kernel
theorem dX12_compared_51 : decode cX12_compared 51 = .ok (.iadd, 1) := by decide +kernel
theorem dX12_compared_52 : decode cX12_compared 52 = .ok (.putfield 190, 3) := by decide +kernel
theorem dX12_compared_55 : decode cX12_compared 55 = .ok (.iload_n 1, 1) := by decide +kernel
theorem dX12_compared_56 : decode cX12_compared 56 = .ok (.bipush 61, 2) := by decide +kernel
theorem dX12_compared_58 : decode cX12_compared 58 = .ok (.if_icmp .eq 16, 3) := by decide +kernel
theorem dX12_compared_61 : decode cX12_compared 61 = .ok (.aload_n 0, 1) := by decide +kernel
theorem dX12_compared_62 : decode cX12_compared 62 = .ok (.invokevirtual 193, 3) := by decide +kernel
theorem dX12_compared_65 : decode cX12_compared 65 = .ok (.bipush 61, 2) := by decide +kernel
theorem dX12_compared_67 : decode cX12_compared 67 = .ok (.if_icmp .ne 7, 3) := by decide +kernel
theorem dX12_compared_70 : decode cX12_compared 70 = .ok (.iconst 1, 1) := by decide +kernel
theorem dX12_compared_71 : decode cX12_compared 71 = .ok (.goto 4, 3) := by decide +kernel
theorem dX12_compared_74 : decode cX12_compared 74 = .ok (.iconst 0, 1) := by decide +kernel
theorem dX12_compared_75 : decode cX12_compared 75 = .ok (.istore_n 2, 1) := by decide +kernel
theorem dX12_compared_76 : decode cX12_compared 76 = .ok (.aload_n 0, 1) := by decide +kernel
theorem dX12_compared_77 : decode cX12_compared 77 = .ok (.dup, 1) := by decide +kernel
theorem dX12_compared_78 : decode cX12_compared 78 = .ok (.getfield 190, 3) := by decide +kernel
theorem dX12_compared_81 : decode cX12_compared 81 = .ok (.iload_n 2, 1) := by decide +kernel
theorem dX12_compared_82 : decode cX12_compared 82 = .ok (.ifCond .eq 7, 3) := by decide +kernel
theorem dX12_compared_85 : decode cX12_compared 85 = .ok (.iconst 1, 1) := by decide +kernel
theorem dX12_compared_86 : decode cX12_compared 86 = .ok (.goto 4, 3) := by decide +kernel
theorem dX12_compared_89 : decode cX12_compared 89 = .ok (.iconst 0, 1) := by decide +kernel
theorem dX12_compared_90 : decode cX12_compared 90 = .ok (.iadd, 1) := by decide +kernel
theorem dX12_compared_91 : decode cX12_compared 91 = .ok (.putfield 190, 3) := by decide +kernel
theorem dX12_compared_94 : decode cX12_compared 94 = .ok (.aload_n 0, 1) := by decide +kernel
theorem dX12_compared_95 : decode cX12_compared 95 = .ok (.invokevirtual 257, 3) := by decide +kernel
theorem dX12_compared_98 : decode cX12_compared 98 = .ok (.aload_n 0, 1) := by decide +kernel
theorem dX12_compared_99 : decode cX12_compared 99 = .ok (.iload_n 1, 1) := by decide +kernel
theorem dX12_compared_100 : decode cX12_compared 100 = .ok (.bipush 61, 2) := by decide +kernel
theorem dX12_compared_102 : decode cX12_compared 102 = .ok (.if_icmp .ne 8, 3) := by decide +kernel
theorem dX12_compared_105 : decode cX12_compared 105 = .ok (.bipush 6, 2) := by decide +kernel
theorem dX12_compared_107 : decode cX12_compared 107 = .ok (.goto 32, 3) := by decide +kernel
theorem dX12_compared_110 : decode cX12_compared 110 = .ok (.iload_n 1, 1) := by decide +kernel
theorem dX12_compared_111 : decode cX12_compared 111 = .ok (.bipush 60, 2) := by decide +kernel
theorem dX12_compared_113 : decode cX12_compared 113 = .ok (.if_icmp .ne 15, 3) := by decide +kernel
theorem dX12_compared_116 : decode cX12_compared 116 = .ok (.iload_n 2, 1) := by decide +kernel
theorem dX12_compared_117 : decode cX12_compared 117 = .ok (.ifCond .eq 7, 3) := by decide +kernel
theorem dX12_compared_120 : decode cX12_compared 120 = .ok (.iconst 5, 1) := by decide +kernel
theorem dX12_compared_121 : decode cX12_compared 121 = .ok (.goto 18, 3) := by decide +kernel
theorem dX12_compared_124 : decode cX12_compared 124 = .ok (.iconst 4, 1) := by decide +kernel
theorem dX12_compared_125 : decode cX12_compared 125 = .ok (.goto 14, 3) := by decide +kernel
theorem dX12_compared_128 : decode cX12_compared 128 = .ok (.iload_n 2, 1) := by decide +kernel
theorem dX12_compared_129 : decode cX12_compared 129 = .ok (.ifCond .eq 8, 3) := by decide +kernel
theorem dX12_compared_132 : decode cX12_compared 132 = .ok (.bipush 7, 2) := by decide +kernel
theorem dX12_compared_134 : decode cX12_compared 134 = .ok (.goto 5, 3) := by decide +kernel
theorem dX12_compared_137 : decode cX12_compared 137 = .ok (.bipush 8, 2) := by decide +kernel
theorem dX12_compared_139 : decode cX12_compared 139 = .ok (.iconst 0, 1) := by decide +kernel
theorem dX12_compared_140 : decode cX12_compared 140 = .ok (.invokevirtual 242, 3) := by decide +kernel
theorem dX12_compared_143 : decode cX12_compared 143 = .ok (.return_, 1) := by decide +kernel
theorem dX12_top_0 : decode cX12_top 0 = .ok (.aload_n 0, 1) := by decide +kernel
theorem dX12_top_1 : decode cX12_top 1 = .ok (.getfield 260, 3) := by decide +kernel
theorem dX12_top_4 : decode cX12_top 4 = .ok (.ifCond .ne 7, 3) := by decide +kernel
theorem dX12_top_7 : decode cX12_top 7 = .ok (.iconst (-1), 1) := by decide +kernel
theorem dX12_top_8 : decode cX12_top 8 = .ok (.goto 14, 3) := by decide +kernel
theorem dX12_top_11 : decode cX12_top 11 = .ok (.aload_n 0, 1) := by decide +kernel
theorem dX12_top_12 : decode cX12_top 12 = .ok (.getfield 41, 3) := by decide +kernel
theorem dX12_top_15 : decode cX12_top 15 = .ok (.aload_n 0, 1) := by decide +kernel
theorem dX12_top_16 : decode cX12_top 16 = .ok (.getfield 260, 3) := by decide +kernel
theorem dX12_top_19 : decode cX12_top 19 = .ok (.iconst 1, 1) := by decide +kernel
theorem dX12_top_20 : decode cX12_top 20 = .ok (.isub, 1) := by decide +kernel
theorem dX12_top_21 : decode cX12_top 21 = .ok (.iaload, 1) := by decide +kernel
theorem dX12_top_22 : decode cX12_top 22 = .ok (.ireturn, 1) := by decide +kernel
theorem dX12_opens_0 : decode cX12_opens 0 = .ok (.iload_n 1, 1) := by decide +kernel
theorem dX12_opens_1 : decode cX12_opens 1 = .ok (.bipush 9, 2) := by decide +kernel
theorem dX12_opens_3 : decode cX12_opens 3 = .ok (.if_icmp .eq 9, 3) := by decide +kernel
theorem dX12_opens_6 : decode cX12_opens 6 = .ok (.iload_n 1, 1) := by decide +kernel
theorem dX12_opens_7 : decode cX12_opens 7 = .ok (.bipush 12, 2) := by decide +kernel
theorem dX12_opens_9 : decode cX12_opens 9 = .ok (.if_icmp .ne 31, 3) := by decide +kernel
theorem dX12_opens_12 : decode cX12_opens 12 = .ok (.aload_n 0, 1) := by decide +kernel
theorem dX12_opens_13 : decode cX12_opens 13 = .ok (.getfield 263, 3) := by decide +kernel
theorem dX12_opens_16 : decode cX12_opens 16 = .ok (.bipush 10, 2) := by decide +kernel
theorem dX12_opens_18 : decode cX12_opens 18 = .ok (.if_icmp .ne 12, 3) := by decide +kernel
theorem dX12_opens_21 : decode cX12_opens 21 = .ok (.aload_n 0, 1) := by decide +kernel
theorem dX12_opens_22 : decode cX12_opens 22 = .ok (.iconst 2, 1) := by decide +kernel
theorem dX12_opens_23 : decode cX12_opens 23 = .ok (.aload_n 0, 1) := by decide +kernel
theorem dX12_opens_24 : decode cX12_opens 24 = .ok (.getfield 190, 3) := by decide +kernel
theorem dX12_opens_27 : decode cX12_opens 27 = .ok (.invokevirtual 226, 3) := by decide +kernel
theorem dX12_opens_30 : decode cX12_opens 30 = .ok (.aload_n 0, 1) := by decide +kernel
theorem dX12_opens_31 : decode cX12_opens 31 = .ok (.dup, 1) := by decide +kernel
theorem dX12_opens_32 : decode cX12_opens 32 = .ok (.getfield 263, 3) := by decide +kernel
theorem dX12_opens_35 : decode cX12_opens 35 = .ok (.iconst 1, 1) := by decide +kernel
theorem dX12_opens_36 : decode cX12_opens 36 = .ok (.iadd, 1) := by decide +kernel
theorem dX12_opens_37 : decode cX12_opens 37 = .ok (.putfield 263, 3) := by decide +kernel
theorem dX12_opens_40 : decode cX12_opens 40 = .ok (.aload_n 0, 1) := by decide +kernel
theorem dX12_opens_41 : decode cX12_opens 41 = .ok (.getfield 41, 3) := by decide +kernel
theorem dX12_opens_44 : decode cX12_opens 44 = .ok (.aload_n 0, 1) := by decide +kernel
theorem dX12_opens_45 : decode cX12_opens 45 = .ok (.getfield 260, 3) := by decide +kernel
theorem dX12_opens_48 : decode cX12_opens 48 = .ok (.iload_n 1, 1) := by decide +kernel
theorem dX12_opens_49 : decode cX12_opens 49 = .ok (.iastore, 1) := by decide +kernel
theorem dX12_opens_50 : decode cX12_opens 50 = .ok (.aload_n 0, 1) := by decide +kernel
theorem dX12_opens_51 : decode cX12_opens 51 = .ok (.dup, 1) := by decide +kernel
theorem dX12_opens_52 : decode cX12_opens 52 = .ok (.getfield 260, 3) := by decide +kernel
theorem dX12_opens_55 : decode cX12_opens 55 = .ok (.iconst 1, 1) := by decide +kernel
theorem dX12_opens_56 : decode cX12_opens 56 = .ok (.iadd, 1) := by decide +kernel
theorem dX12_opens_57 : decode cX12_opens 57 = .ok (.putfield 260, 3) := by decide +kernel
theorem dX12_opens_60 : decode cX12_opens 60 = .ok (.return_, 1) := by decide +kernel
theorem dX12_answers_0 : decode cX12_answers 0 = .ok (.aload_n 0, 1) := by decide +kernel
theorem dX12_answers_1 : decode cX12_answers 1 = .ok (.invokevirtual 266, 3) := by decide +kernel
theorem dX12_answers_4 : decode cX12_answers 4 = .ok (.iload_n 1, 1) := by decide +kernel
theorem dX12_answers_5 : decode cX12_answers 5 = .ok (.if_icmp .ne 49, 3) := by decide +kernel
theorem dX12_answers_8 : decode cX12_answers 8 = .ok (.aload_n 0, 1) := by decide +kernel
theorem dX12_answers_9 : decode cX12_answers 9 = .ok (.getfield 187, 3) := by decide +kernel
theorem dX12_answers_12 : decode cX12_answers 12 = .ok (.ifCond .ne 42, 3) := by decide +kernel
theorem dX12_answers_15 : decode cX12_answers 15 = .ok (.aload_n 0, 1) := by decide +kernel
theorem dX12_answers_16 : decode cX12_answers 16 = .ok (.iload_n 1, 1) := by decide +kernel
theorem dX12_answers_17 : decode cX12_answers 17 = .ok (.iconst 0, 1) := by decide +kernel
theorem dX12_answers_18 : decode cX12_answers 18 = .ok (.invokevirtual 242, 3) := by decide +kernel
theorem dX12_answers_21 : decode cX12_answers 21 = .ok (.aload_n 0, 1) := by decide +kernel
theorem dX12_answers_22 : decode cX12_answers 22 = .ok (.dup, 1) := by decide +kernel
theorem dX12_answers_23 : decode cX12_answers 23 = .ok (.getfield 260, 3) := by decide +kernel
theorem dX12_answers_26 : decode cX12_answers 26 = .ok (.iconst 1, 1) := by decide +kernel
theorem dX12_answers_27 : decode cX12_answers 27 = .ok (.isub, 1) := by decide +kernel
theorem dX12_answers_28 : decode cX12_answers 28 = .ok (.putfield 260, 3) := by decide +kernel
theorem dX12_answers_31 : decode cX12_answers 31 = .ok (.aload_n 0, 1) := by decide +kernel
theorem dX12_answers_32 : decode cX12_answers 32 = .ok (.dup, 1) := by decide +kernel
theorem dX12_answers_33 : decode cX12_answers 33 = .ok (.getfield 263, 3) := by decide +kernel
theorem dX12_answers_36 : decode cX12_answers 36 = .ok (.iload_n 1, 1) := by decide +kernel
theorem dX12_answers_37 : decode cX12_answers 37 = .ok (.bipush 9, 2) := by decide +kernel
theorem dX12_answers_39 : decode cX12_answers 39 = .ok (.if_icmp .ne 7, 3) := by decide +kernel
theorem dX12_answers_42 : decode cX12_answers 42 = .ok (.iconst 1, 1) := by decide +kernel
theorem dX12_answers_43 : decode cX12_answers 43 = .ok (.goto 4, 3) := by decide +kernel
theorem dX12_answers_46 : decode cX12_answers 46 = .ok (.iconst 0, 1) := by decide +kernel
theorem dX12_answers_47 : decode cX12_answers 47 = .ok (.isub, 1) := by decide +kernel
theorem dX12_answers_48 : decode cX12_answers 48 = .ok (.putfield 263, 3) := by decide +kernel
theorem dX12_answers_51 : decode cX12_answers 51 = .ok (.goto (-51), 3) := by decide +kernel
theorem dX12_answers_54 : decode cX12_answers 54 = .ok (.return_, 1) := by decide +kernel
theorem dX12_fact_0 : decode cX12_fact 0 = .ok (.aload_n 0, 1) := by decide +kernel
theorem dX12_fact_1 : decode cX12_fact 1 = .ok (.invokevirtual 213, 3) := by decide +kernel
theorem dX12_fact_4 : decode cX12_fact 4 = .ok (.aload_n 0, 1) := by decide +kernel
theorem dX12_fact_5 : decode cX12_fact 5 = .ok (.ldc_w 269, 3) := by decide +kernel
theorem dX12_fact_8 : decode cX12_fact 8 = .ok (.invokevirtual 216, 3) := by decide +kernel
theorem dX12_fact_11 : decode cX12_fact 11 = .ok (.ifCond .eq 21, 3) := by decide +kernel
theorem dX12_fact_14 : decode cX12_fact 14 = .ok (.aload_n 0, 1) := by decide +kernel
theorem dX12_fact_15 : decode cX12_fact 15 = .ok (.bipush 9, 2) := by decide +kernel
theorem dX12_fact_17 : decode cX12_fact 17 = .ok (.invokevirtual 271, 3) := by decide +kernel
theorem dX12_fact_20 : decode cX12_fact 20 = .ok (.aload_n 0, 1) := by decide +kernel
theorem dX12_fact_21 : decode cX12_fact 21 = .ok (.dup, 1) := by decide +kernel
theorem dX12_fact_22 : decode cX12_fact 22 = .ok (.getfield 190, 3) := by decide +kernel
theorem dX12_fact_25 : decode cX12_fact 25 = .ok (.iconst 3, 1) := by decide +kernel
theorem dX12_fact_26 : decode cX12_fact 26 = .ok (.iadd, 1) := by decide +kernel
theorem dX12_fact_27 : decode cX12_fact 27 = .ok (.putfield 190, 3) := by decide +kernel
theorem dX12_fact_30 : decode cX12_fact 30 = .ok (.iconst 0, 1) := by decide +kernel
theorem dX12_fact_31 : decode cX12_fact 31 = .ok (.ireturn, 1) := by decide +kernel
theorem dX12_fact_32 : decode cX12_fact 32 = .ok (.aload_n 0, 1) := by decide +kernel
theorem dX12_fact_33 : decode cX12_fact 33 = .ok (.invokevirtual 193, 3) := by decide +kernel
theorem dX12_fact_36 : decode cX12_fact 36 = .ok (.bipush 91, 2) := by decide +kernel
theorem dX12_fact_38 : decode cX12_fact 38 = .ok (.if_icmp .ne 21, 3) := by decide +kernel
theorem dX12_fact_41 : decode cX12_fact 41 = .ok (.aload_n 0, 1) := by decide +kernel
theorem dX12_fact_42 : decode cX12_fact 42 = .ok (.bipush 12, 2) := by decide +kernel
theorem dX12_fact_44 : decode cX12_fact 44 = .ok (.invokevirtual 271, 3) := by decide +kernel
theorem dX12_fact_47 : decode cX12_fact 47 = .ok (.aload_n 0, 1) := by decide +kernel
theorem dX12_fact_48 : decode cX12_fact 48 = .ok (.dup, 1) := by decide +kernel
theorem dX12_fact_49 : decode cX12_fact 49 = .ok (.getfield 190, 3) := by decide +kernel
theorem dX12_fact_52 : decode cX12_fact 52 = .ok (.iconst 1, 1) := by decide +kernel
theorem dX12_fact_53 : decode cX12_fact 53 = .ok (.iadd, 1) := by decide +kernel
theorem dX12_fact_54 : decode cX12_fact 54 = .ok (.putfield 190, 3) := by decide +kernel
theorem dX12_fact_57 : decode cX12_fact 57 = .ok (.iconst 0, 1) := by decide +kernel
theorem dX12_fact_58 : decode cX12_fact 58 = .ok (.ireturn, 1) := by decide +kernel
theorem dX12_fact_59 : decode cX12_fact 59 = .ok (.aload_n 0, 1) := by decide +kernel
theorem dX12_fact_60 : decode cX12_fact 60 = .ok (.invokevirtual 274, 3) := by decide +kernel
theorem dX12_fact_63 : decode cX12_fact 63 = .ok (.iconst 1, 1) := by decide +kernel
theorem dX12_fact_64 : decode cX12_fact 64 = .ok (.ireturn, 1) := by decide +kernel
theorem dX12_test_0 : decode cX12_test 0 = .ok (.aload_n 0, 1) := by decide +kernel
theorem dX12_test_1 : decode cX12_test 1 = .ok (.iconst 0, 1) := by decide +kernel
theorem dX12_test_2 : decode cX12_test 2 = .ok (.putfield 260, 3) := by decide +kernel
theorem dX12_test_5 : decode cX12_test 5 = .ok (.iconst 1, 1) := by decide +kernel
theorem dX12_test_6 : decode cX12_test 6 = .ok (.istore_n 1, 1) := by decide +kernel
theorem dX12_test_7 : decode cX12_test 7 = .ok (.iconst 1, 1) := by decide +kernel
theorem dX12_test_8 : decode cX12_test 8 = .ok (.istore_n 2, 1) := by decide +kernel
theorem dX12_test_9 : decode cX12_test 9 = .ok (.iload_n 2, 1) := by decide +kernel
theorem dX12_test_10 : decode cX12_test 10 = .ok (.ifCond .eq 192, 3) := by decide +kernel
theorem dX12_test_13 : decode cX12_test 13 = .ok (.aload_n 0, 1) := by decide +kernel
theorem dX12_test_14 : decode cX12_test 14 = .ok (.getfield 187, 3) := by decide +kernel
theorem dX12_test_17 : decode cX12_test 17 = .ok (.ifCond .ne 185, 3) := by decide +kernel
theorem dX12_test_20 : decode cX12_test 20 = .ok (.iload_n 1, 1) := by decide +kernel
theorem dX12_test_21 : decode cX12_test 21 = .ok (.ifCond .eq 19, 3) := by decide +kernel
theorem dX12_test_24 : decode cX12_test 24 = .ok (.aload_n 0, 1) := by decide +kernel
theorem dX12_test_25 : decode cX12_test 25 = .ok (.invokevirtual 277, 3) := by decide +kernel
theorem dX12_test_28 : decode cX12_test 28 = .ok (.ifCond .ne 7, 3) := by decide +kernel
theorem dX12_test_31 : decode cX12_test 31 = .ok (.iconst 1, 1) := by decide +kernel
theorem dX12_test_32 : decode cX12_test 32 = .ok (.goto 4, 3) := by decide +kernel
theorem dX12_test_35 : decode cX12_test 35 = .ok (.iconst 0, 1) := by decide +kernel
theorem dX12_test_36 : decode cX12_test 36 = .ok (.istore_n 1, 1) := by decide +kernel
theorem dX12_test_37 : decode cX12_test 37 = .ok (.goto (-28), 3) := by decide +kernel
theorem dX12_test_40 : decode cX12_test 40 = .ok (.aload_n 0, 1) := by decide +kernel
theorem dX12_test_41 : decode cX12_test 41 = .ok (.bipush 9, 2) := by decide +kernel
theorem dX12_test_43 : decode cX12_test 43 = .ok (.invokevirtual 280, 3) := by decide +kernel
theorem dX12_test_46 : decode cX12_test 46 = .ok (.aload_n 0, 1) := by decide +kernel
theorem dX12_test_47 : decode cX12_test 47 = .ok (.invokevirtual 213, 3) := by decide +kernel
theorem dX12_test_50 : decode cX12_test 50 = .ok (.aload_n 0, 1) := by decide +kernel
theorem dX12_test_51 : decode cX12_test 51 = .ok (.ldc_w 283, 3) := by decide +kernel
theorem dX12_test_54 : decode cX12_test 54 = .ok (.invokevirtual 216, 3) := by decide +kernel
theorem dX12_test_57 : decode cX12_test 57 = .ok (.istore_n 3, 1) := by decide +kernel
theorem dX12_test_58 : decode cX12_test 58 = .ok (.aload_n 0, 1) := by decide +kernel
theorem dX12_test_59 : decode cX12_test 59 = .ok (.ldc_w 285, 3) := by decide +kernel
theorem dX12_test_62 : decode cX12_test 62 = .ok (.invokevirtual 216, 3) := by decide +kernel
theorem dX12_test_65 : decode cX12_test 65 = .ok (.istore 4, 2) := by decide +kernel
theorem dX12_test_67 : decode cX12_test 67 = .ok (.aload_n 0, 1) := by decide +kernel
theorem dX12_test_68 : decode cX12_test 68 = .ok (.bipush 10, 2) := by decide +kernel
theorem dX12_test_70 : decode cX12_test 70 = .ok (.invokevirtual 280, 3) := by decide +kernel
theorem dX12_test_73 : decode cX12_test 73 = .ok (.iload_n 3, 1) := by decide +kernel
theorem dX12_test_74 : decode cX12_test 74 = .ok (.ifCond .ne 8, 3) := by decide +kernel
theorem dX12_test_77 : decode cX12_test 77 = .ok (.iload 4, 2) := by decide +kernel
theorem dX12_test_79 : decode cX12_test 79 = .ok (.ifCond .eq 52, 3) := by decide +kernel
theorem dX12_test_82 : decode cX12_test 82 = .ok (.iload 4, 2) := by decide +kernel
theorem dX12_test_84 : decode cX12_test 84 = .ok (.ifCond .eq 9, 3) := by decide +kernel
theorem dX12_test_87 : decode cX12_test 87 = .ok (.aload_n 0, 1) := by decide +kernel
theorem dX12_test_88 : decode cX12_test 88 = .ok (.bipush 11, 2) := by decide +kernel
theorem dX12_test_90 : decode cX12_test 90 = .ok (.invokevirtual 280, 3) := by decide +kernel
theorem dX12_test_93 : decode cX12_test 93 = .ok (.aload_n 0, 1) := by decide +kernel
theorem dX12_test_94 : decode cX12_test 94 = .ok (.iload_n 3, 1) := by decide +kernel
theorem dX12_test_95 : decode cX12_test 95 = .ok (.ifCond .eq 8, 3) := by decide +kernel
theorem dX12_test_98 : decode cX12_test 98 = .ok (.bipush 10, 2) := by decide +kernel
theorem dX12_test_100 : decode cX12_test 100 = .ok (.goto 5, 3) := by decide +kernel
theorem dX12_test_103 : decode cX12_test 103 = .ok (.bipush 11, 2) := by decide +kernel
theorem dX12_test_105 : decode cX12_test 105 = .ok (.invokevirtual 271, 3) := by decide +kernel
theorem dX12_test_108 : decode cX12_test 108 = .ok (.aload_n 0, 1) := by decide +kernel
theorem dX12_test_109 : decode cX12_test 109 = .ok (.dup, 1) := by decide +kernel
theorem dX12_test_110 : decode cX12_test 110 = .ok (.getfield 190, 3) := by decide +kernel
theorem dX12_test_113 : decode cX12_test 113 = .ok (.iload_n 3, 1) := by decide +kernel
theorem dX12_test_114 : decode cX12_test 114 = .ok (.ifCond .eq 7, 3) := by decide +kernel
theorem dX12_test_117 : decode cX12_test 117 = .ok (.iconst 3, 1) := by decide +kernel
theorem dX12_test_118 : decode cX12_test 118 = .ok (.goto 4, 3) := by decide +kernel
theorem dX12_test_121 : decode cX12_test 121 = .ok (.iconst 2, 1) := by decide +kernel
theorem dX12_test_122 : decode cX12_test 122 = .ok (.iadd, 1) := by decide +kernel
theorem dX12_test_123 : decode cX12_test 123 = .ok (.putfield 190, 3) := by decide +kernel
theorem dX12_test_126 : decode cX12_test 126 = .ok (.iconst 1, 1) := by decide +kernel
theorem dX12_test_127 : decode cX12_test 127 = .ok (.istore_n 1, 1) := by decide +kernel
theorem dX12_test_128 : decode cX12_test 128 = .ok (.goto 71, 3) := by decide +kernel
theorem dX12_test_131 : decode cX12_test 131 = .ok (.aload_n 0, 1) := by decide +kernel
theorem dX12_test_132 : decode cX12_test 132 = .ok (.bipush 11, 2) := by decide +kernel
theorem dX12_test_134 : decode cX12_test 134 = .ok (.invokevirtual 280, 3) := by decide +kernel
theorem dX12_test_137 : decode cX12_test 137 = .ok (.aload_n 0, 1) := by decide +kernel
theorem dX12_test_138 : decode cX12_test 138 = .ok (.invokevirtual 266, 3) := by decide +kernel
theorem dX12_test_141 : decode cX12_test 141 = .ok (.bipush 12, 2) := by decide +kernel
theorem dX12_test_143 : decode cX12_test 143 = .ok (.if_icmp .ne 54, 3) := by decide +kernel
theorem dX12_test_146 : decode cX12_test 146 = .ok (.aload_n 0, 1) := by decide +kernel
theorem dX12_test_147 : decode cX12_test 147 = .ok (.invokevirtual 193, 3) := by decide +kernel
theorem dX12_test_150 : decode cX12_test 150 = .ok (.bipush 93, 2) := by decide +kernel
theorem dX12_test_152 : decode cX12_test 152 = .ok (.if_icmp .eq 12, 3) := by decide +kernel
theorem dX12_test_155 : decode cX12_test 155 = .ok (.aload_n 0, 1) := by decide +kernel
theorem dX12_test_156 : decode cX12_test 156 = .ok (.iconst 0, 1) := by decide +kernel
theorem dX12_test_157 : decode cX12_test 157 = .ok (.aload_n 0, 1) := by decide +kernel
theorem dX12_test_158 : decode cX12_test 158 = .ok (.getfield 190, 3) := by decide +kernel
theorem dX12_test_161 : decode cX12_test 161 = .ok (.invokevirtual 226, 3) := by decide +kernel
theorem dX12_test_164 : decode cX12_test 164 = .ok (.aload_n 0, 1) := by decide +kernel
theorem dX12_test_165 : decode cX12_test 165 = .ok (.dup, 1) := by decide +kernel
theorem dX12_test_166 : decode cX12_test 166 = .ok (.getfield 190, 3) := by decide +kernel
theorem dX12_test_169 : decode cX12_test 169 = .ok (.iconst 1, 1) := by decide +kernel
theorem dX12_test_170 : decode cX12_test 170 = .ok (.iadd, 1) := by decide +kernel
theorem dX12_test_171 : decode cX12_test 171 = .ok (.putfield 190, 3) := by decide +kernel
theorem dX12_test_174 : decode cX12_test 174 = .ok (.aload_n 0, 1) := by decide +kernel
theorem dX12_test_175 : decode cX12_test 175 = .ok (.dup, 1) := by decide +kernel
theorem dX12_test_176 : decode cX12_test 176 = .ok (.getfield 260, 3) := by decide +kernel
theorem dX12_test_179 : decode cX12_test 179 = .ok (.iconst 1, 1) := by decide +kernel
theorem dX12_test_180 : decode cX12_test 180 = .ok (.isub, 1) := by decide +kernel
theorem dX12_test_181 : decode cX12_test 181 = .ok (.putfield 260, 3) := by decide +kernel
theorem dX12_test_184 : decode cX12_test 184 = .ok (.aload_n 0, 1) := by decide +kernel
theorem dX12_test_185 : decode cX12_test 185 = .ok (.dup, 1) := by decide +kernel
theorem dX12_test_186 : decode cX12_test 186 = .ok (.getfield 263, 3) := by decide +kernel
theorem dX12_test_189 : decode cX12_test 189 = .ok (.iconst 1, 1) := by decide +kernel
theorem dX12_test_190 : decode cX12_test 190 = .ok (.isub, 1) := by decide +kernel
theorem dX12_test_191 : decode cX12_test 191 = .ok (.putfield 263, 3) := by decide +kernel
theorem dX12_test_194 : decode cX12_test 194 = .ok (.goto 5, 3) := by decide +kernel
theorem dX12_test_197 : decode cX12_test 197 = .ok (.iconst 0, 1) := by decide +kernel
theorem dX12_test_198 : decode cX12_test 198 = .ok (.istore_n 2, 1) := by decide +kernel
theorem dX12_test_199 : decode cX12_test 199 = .ok (.goto (-190), 3) := by decide +kernel
theorem dX12_test_202 : decode cX12_test 202 = .ok (.return_, 1) := by decide +kernel
theorem dX12_amount_0 : decode cX12_amount 0 = .ok (.aload_n 0, 1) := by decide +kernel
theorem dX12_amount_1 : decode cX12_amount 1 = .ok (.invokevirtual 213, 3) := by decide +kernel
theorem dX12_amount_4 : decode cX12_amount 4 = .ok (.aload_n 0, 1) := by decide +kernel
theorem dX12_amount_5 : decode cX12_amount 5 = .ok (.getfield 190, 3) := by decide +kernel
theorem dX12_amount_8 : decode cX12_amount 8 = .ok (.istore_n 3, 1) := by decide +kernel
theorem dX12_amount_9 : decode cX12_amount 9 = .ok (.aload_n 0, 1) := by decide +kernel
theorem dX12_amount_10 : decode cX12_amount 10 = .ok (.getfield 187, 3) := by decide +kernel
theorem dX12_amount_13 : decode cX12_amount 13 = .ok (.ifCond .ne 11, 3) := by decide +kernel
theorem dX12_amount_16 : decode cX12_amount 16 = .ok (.aload_n 0, 1) := by decide +kernel
theorem dX12_amount_17 : decode cX12_amount 17 = .ok (.iload_n 2, 1) := by decide +kernel
theorem dX12_amount_18 : decode cX12_amount 18 = .ok (.invokevirtual 235, 3) := by decide +kernel
theorem dX12_amount_21 : decode cX12_amount 21 = .ok (.goto 4, 3) := by decide +kernel
theorem dX12_amount_24 : decode cX12_amount 24 = .ok (.iconst 0, 1) := by decide +kernel
theorem dX12_amount_25 : decode cX12_amount 25 = .ok (.istore 4, 2) := by decide +kernel
theorem dX12_amount_27 : decode cX12_amount 27 = .ok (.aload_n 0, 1) := by decide +kernel
theorem dX12_amount_28 : decode cX12_amount 28 = .ok (.getfield 187, 3) := by decide +kernel
theorem dX12_amount_31 : decode cX12_amount 31 = .ok (.ifCond .ne 15, 3) := by decide +kernel
theorem dX12_amount_34 : decode cX12_amount 34 = .ok (.iload 4, 2) := by decide +kernel
theorem dX12_amount_36 : decode cX12_amount 36 = .ok (.iload_n 1, 1) := by decide +kernel
theorem dX12_amount_37 : decode cX12_amount 37 = .ok (.if_icmp .ge 9, 3) := by decide +kernel
theorem dX12_amount_40 : decode cX12_amount 40 = .ok (.aload_n 0, 1) := by decide +kernel
theorem dX12_amount_41 : decode cX12_amount 41 = .ok (.iconst 1, 1) := by decide +kernel
theorem dX12_amount_42 : decode cX12_amount 42 = .ok (.iload_n 3, 1) := by decide +kernel
theorem dX12_amount_43 : decode cX12_amount 43 = .ok (.invokevirtual 226, 3) := by decide +kernel
theorem dX12_amount_46 : decode cX12_amount 46 = .ok (.iload 4, 2) := by decide +kernel
theorem dX12_amount_48 : decode cX12_amount 48 = .ok (.ireturn, 1) := by decide +kernel
theorem dX12_wasTold_0 : decode cX12_wasTold 0 = .ok (.iconst 0, 1) := by decide +kernel
theorem dX12_wasTold_1 : decode cX12_wasTold 1 = .ok (.istore_n 3, 1) := by decide +kernel
theorem dX12_wasTold_2 : decode cX12_wasTold 2 = .ok (.iconst 0, 1) := by decide +kernel
theorem dX12_wasTold_3 : decode cX12_wasTold 3 = .ok (.istore 4, 2) := by decide +kernel
theorem dX12_wasTold_5 : decode cX12_wasTold 5 = .ok (.iload 4, 2) := by decide +kernel
theorem dX12_wasTold_7 : decode cX12_wasTold 7 = .ok (.iload_n 1, 1) := by decide +kernel
theorem dX12_wasTold_8 : decode cX12_wasTold 8 = .ok (.if_icmp .ge 38, 3) := by decide +kernel
theorem dX12_wasTold_11 : decode cX12_wasTold 11 = .ok (.iload_n 3, 1) := by decide +kernel
theorem dX12_wasTold_12 : decode cX12_wasTold 12 = .ok (.ifCond .ne 22, 3) := by decide +kernel
theorem dX12_wasTold_15 : decode cX12_wasTold 15 = .ok (.aload_n 0, 1) := by decide +kernel
theorem dX12_wasTold_16 : decode cX12_wasTold 16 = .ok (.getfield 23, 3) := by decide +kernel
theorem dX12_wasTold_19 : decode cX12_wasTold 19 = .ok (.bipush 24, 2) := by decide +kernel
theorem dX12_wasTold_21 : decode cX12_wasTold 21 = .ok (.aload_n 0, 1) := by decide +kernel
theorem dX12_wasTold_22 : decode cX12_wasTold 22 = .ok (.getfield 153, 3) := by decide +kernel
theorem dX12_wasTold_25 : decode cX12_wasTold 25 = .ok (.imul, 1) := by decide +kernel
theorem dX12_wasTold_26 : decode cX12_wasTold 26 = .ok (.iload 4, 2) := by decide +kernel
theorem dX12_wasTold_28 : decode cX12_wasTold 28 = .ok (.iadd, 1) := by decide +kernel
theorem dX12_wasTold_29 : decode cX12_wasTold 29 = .ok (.iaload, 1) := by decide +kernel
theorem dX12_wasTold_30 : decode cX12_wasTold 30 = .ok (.iload_n 2, 1) := by decide +kernel
theorem dX12_wasTold_31 : decode cX12_wasTold 31 = .ok (.if_icmp .ne 7, 3) := by decide +kernel
theorem dX12_wasTold_34 : decode cX12_wasTold 34 = .ok (.iconst 1, 1) := by decide +kernel
theorem dX12_wasTold_35 : decode cX12_wasTold 35 = .ok (.goto 4, 3) := by decide +kernel
theorem dX12_wasTold_38 : decode cX12_wasTold 38 = .ok (.iconst 0, 1) := by decide +kernel
theorem dX12_wasTold_39 : decode cX12_wasTold 39 = .ok (.istore_n 3, 1) := by decide +kernel
theorem dX12_wasTold_40 : decode cX12_wasTold 40 = .ok (.iinc 4 1, 3) := by decide +kernel
theorem dX12_wasTold_43 : decode cX12_wasTold 43 = .ok (.goto (-38), 3) := by decide +kernel
theorem dX12_wasTold_46 : decode cX12_wasTold 46 = .ok (.iload_n 3, 1) := by decide +kernel
theorem dX12_wasTold_47 : decode cX12_wasTold 47 = .ok (.ireturn, 1) := by decide +kernel
theorem dX12_letter_0 : decode cX12_letter 0 = .ok (.aload_n 0, 1) := by decide +kernel
theorem dX12_letter_1 : decode cX12_letter 1 = .ok (.invokevirtual 213, 3) := by decide +kernel
theorem dX12_letter_4 : decode cX12_letter 4 = .ok (.aload_n 0, 1) := by decide +kernel
theorem dX12_letter_5 : decode cX12_letter 5 = .ok (.invokevirtual 193, 3) := by decide +kernel
theorem dX12_letter_8 : decode cX12_letter 8 = .ok (.istore_n 1, 1) := by decide +kernel
theorem dX12_letter_9 : decode cX12_letter 9 = .ok (.aload_n 0, 1) := by decide +kernel
theorem dX12_letter_10 : decode cX12_letter 10 = .ok (.getfield 190, 3) := by decide +kernel
theorem dX12_letter_13 : decode cX12_letter 13 = .ok (.iconst 1, 1) := by decide +kernel
theorem dX12_letter_14 : decode cX12_letter 14 = .ok (.iadd, 1) := by decide +kernel
theorem dX12_letter_15 : decode cX12_letter 15 = .ok (.aload_n 0, 1) := by decide +kernel
theorem dX12_letter_16 : decode cX12_letter 16 = .ok (.getfield 147, 3) := by decide +kernel
theorem dX12_letter_19 : decode cX12_letter 19 = .ok (.if_icmp .ge 39, 3) := by decide +kernel
theorem dX12_letter_22 : decode cX12_letter 22 = .ok (.aload_n 0, 1) := by decide +kernel
theorem dX12_letter_23 : decode cX12_letter 23 = .ok (.getfield 9, 3) := by decide +kernel
theorem dX12_letter_26 : decode cX12_letter 26 = .ok (.aload_n 0, 1) := by decide +kernel
theorem dX12_letter_27 : decode cX12_letter 27 = .ok (.getfield 190, 3) := by decide +kernel
theorem dX12_letter_30 : decode cX12_letter 30 = .ok (.iconst 1, 1) := by decide +kernel
theorem dX12_letter_31 : decode cX12_letter 31 = .ok (.iadd, 1) := by decide +kernel
theorem dX12_letter_32 : decode cX12_letter 32 = .ok (.baload, 1) := by decide +kernel
theorem dX12_letter_33 : decode cX12_letter 33 = .ok (.bipush 97, 2) := by decide +kernel
theorem dX12_letter_35 : decode cX12_letter 35 = .ok (.if_icmp .lt 23, 3) := by decide +kernel
theorem dX12_letter_38 : decode cX12_letter 38 = .ok (.aload_n 0, 1) := by decide +kernel
theorem dX12_letter_39 : decode cX12_letter 39 = .ok (.getfield 9, 3) := by decide +kernel
theorem dX12_letter_42 : decode cX12_letter 42 = .ok (.aload_n 0, 1) := by decide +kernel
theorem dX12_letter_43 : decode cX12_letter 43 = .ok (.getfield 190, 3) := by decide +kernel
theorem dX12_letter_46 : decode cX12_letter 46 = .ok (.iconst 1, 1) := by decide +kernel
theorem dX12_letter_47 : decode cX12_letter 47 = .ok (.iadd, 1) := by decide +kernel
theorem dX12_letter_48 : decode cX12_letter 48 = .ok (.baload, 1) := by decide +kernel
theorem dX12_letter_49 : decode cX12_letter 49 = .ok (.bipush 122, 2) := by decide +kernel
theorem dX12_letter_51 : decode cX12_letter 51 = .ok (.if_icmp .gt 7, 3) := by decide +kernel
theorem dX12_letter_54 : decode cX12_letter 54 = .ok (.iconst 1, 1) := by decide +kernel
theorem dX12_letter_55 : decode cX12_letter 55 = .ok (.goto 4, 3) := by decide +kernel
theorem dX12_letter_58 : decode cX12_letter 58 = .ok (.iconst 0, 1) := by decide +kernel
theorem dX12_letter_59 : decode cX12_letter 59 = .ok (.istore_n 2, 1) := by decide +kernel
theorem dX12_letter_60 : decode cX12_letter 60 = .ok (.iload_n 1, 1) := by decide +kernel
theorem dX12_letter_61 : decode cX12_letter 61 = .ok (.i2l, 1) := by decide +kernel
theorem dX12_letter_62 : decode cX12_letter 62 = .ok (.ldc2_w 287, 3) := by decide +kernel
theorem dX12_letter_65 : decode cX12_letter 65 = .ok (.ldc2_w 289, 3) := by decide +kernel
theorem dX12_letter_68 : decode cX12_letter 68 = .ok (.invokestatic 201, 3) := by decide +kernel
theorem dX12_letter_71 : decode cX12_letter 71 = .ok (.ifCond .eq 14, 3) := by decide +kernel
theorem dX12_letter_74 : decode cX12_letter 74 = .ok (.iload_n 2, 1) := by decide +kernel
theorem dX12_letter_75 : decode cX12_letter 75 = .ok (.ifCond .ne 10, 3) := by decide +kernel
theorem dX12_letter_78 : decode cX12_letter 78 = .ok (.iload_n 1, 1) := by decide +kernel
theorem dX12_letter_79 : decode cX12_letter 79 = .ok (.bipush 97, 2) := by decide +kernel
theorem dX12_letter_81 : decode cX12_letter 81 = .ok (.isub, 1) := by decide +kernel
theorem dX12_letter_82 : decode cX12_letter 82 = .ok (.goto 4, 3) := by decide +kernel
theorem dX12_letter_85 : decode cX12_letter 85 = .ok (.iconst (-1), 1) := by decide +kernel
theorem dX12_letter_86 : decode cX12_letter 86 = .ok (.ireturn, 1) := by decide +kernel
theorem dX12_ifTest_0 : decode cX12_ifTest 0 = .ok (.aload_n 0, 1) := by decide +kernel
theorem dX12_ifTest_1 : decode cX12_ifTest 1 = .ok (.getfield 187, 3) := by decide +kernel
theorem dX12_ifTest_4 : decode cX12_ifTest 4 = .ok (.ifCond .ne 17, 3) := by decide +kernel
theorem dX12_ifTest_7 : decode cX12_ifTest 7 = .ok (.aload_n 0, 1) := by decide +kernel
theorem dX12_ifTest_8 : decode cX12_ifTest 8 = .ok (.ldc_w 291, 3) := by decide +kernel
theorem dX12_ifTest_11 : decode cX12_ifTest 11 = .ok (.invokevirtual 293, 3) := by decide +kernel
theorem dX12_ifTest_14 : decode cX12_ifTest 14 = .ok (.ifCond .eq 7, 3) := by decide +kernel
theorem dX12_ifTest_17 : decode cX12_ifTest 17 = .ok (.aload_n 0, 1) := by decide +kernel
theorem dX12_ifTest_18 : decode cX12_ifTest 18 = .ok (.invokevirtual 296, 3) := by decide +kernel
theorem dX12_ifTest_21 : decode cX12_ifTest 21 = .ok (.return_, 1) := by decide +kernel
theorem dX12_thingClause_0 : decode cX12_thingClause 0 = .ok (.aload_n 0, 1) := by decide +kernel
theorem dX12_thingClause_1 : decode cX12_thingClause 1 = .ok (.invokevirtual 299, 3) := by decide +kernel
theorem dX12_thingClause_4 : decode cX12_thingClause 4 = .ok (.istore_n 1, 1) := by decide +kernel
theorem dX12_thingClause_5 : decode cX12_thingClause 5 = .ok (.iload_n 1, 1) := by decide +kernel
theorem dX12_thingClause_6 : decode cX12_thingClause 6 = .ok (.iconst (-1), 1) := by decide +kernel
theorem dX12_thingClause_7 : decode cX12_thingClause 7 = .ok (.if_icmp .ne 13, 3) := by decide +kernel
theorem dX12_thingClause_10 : decode cX12_thingClause 10 = .ok (.aload_n 0, 1) := by decide +kernel
theorem dX12_thingClause_11 : decode cX12_thingClause 11 = .ok (.iconst 0, 1) := by decide +kernel
theorem dX12_thingClause_12 : decode cX12_thingClause 12 = .ok (.aload_n 0, 1) := by decide +kernel
theorem dX12_thingClause_13 : decode cX12_thingClause 13 = .ok (.getfield 190, 3) := by decide +kernel
theorem dX12_thingClause_16 : decode cX12_thingClause 16 = .ok (.invokevirtual 226, 3) := by decide +kernel
theorem dX12_thingClause_19 : decode cX12_thingClause 19 = .ok (.return_, 1) := by decide +kernel
theorem dX12_thingClause_20 : decode cX12_thingClause 20 = .ok (.bipush 8, 2) := by decide +kernel
theorem dX12_thingClause_22 : decode cX12_thingClause 22 = .ok (.iload_n 1, 1) := by decide +kernel
theorem dX12_thingClause_23 : decode cX12_thingClause 23 = .ok (.iadd, 1) := by decide +kernel
theorem dX12_thingClause_24 : decode cX12_thingClause 24 = .ok (.istore_n 2, 1) := by decide +kernel
theorem dX12_thingClause_25 : decode cX12_thingClause 25 = .ok (.aload_n 0, 1) := by decide +kernel
theorem dX12_thingClause_26 : decode cX12_thingClause 26 = .ok (.getfield 44, 3) := by decide +kernel
theorem dX12_thingClause_29 : decode cX12_thingClause 29 = .ok (.iload_n 2, 1) := by decide +kernel
theorem dX12_thingClause_30 : decode cX12_thingClause 30 = .ok (.iaload, 1) := by decide +kernel
theorem dX12_thingClause_31 : decode cX12_thingClause 31 = .ok (.iconst 1, 1) := by decide +kernel
theorem dX12_thingClause_32 : decode cX12_thingClause 32 = .ok (.if_icmp .ne 13, 3) := by decide +kernel
theorem dX12_thingClause_35 : decode cX12_thingClause 35 = .ok (.aload_n 0, 1) := by decide +kernel
theorem dX12_thingClause_36 : decode cX12_thingClause 36 = .ok (.iconst 5, 1) := by decide +kernel
theorem dX12_thingClause_37 : decode cX12_thingClause 37 = .ok (.aload_n 0, 1) := by decide +kernel
theorem dX12_thingClause_38 : decode cX12_thingClause 38 = .ok (.getfield 190, 3) := by decide +kernel
theorem dX12_thingClause_41 : decode cX12_thingClause 41 = .ok (.invokevirtual 226, 3) := by decide +kernel
theorem dX12_thingClause_44 : decode cX12_thingClause 44 = .ok (.return_, 1) := by decide +kernel
theorem dX12_thingClause_45 : decode cX12_thingClause 45 = .ok (.aload_n 0, 1) := by decide +kernel
theorem dX12_thingClause_46 : decode cX12_thingClause 46 = .ok (.dup, 1) := by decide +kernel
theorem dX12_thingClause_47 : decode cX12_thingClause 47 = .ok (.getfield 190, 3) := by decide +kernel
theorem dX12_thingClause_50 : decode cX12_thingClause 50 = .ok (.iconst 1, 1) := by decide +kernel
theorem dX12_thingClause_51 : decode cX12_thingClause 51 = .ok (.iadd, 1) := by decide +kernel
theorem dX12_thingClause_52 : decode cX12_thingClause 52 = .ok (.putfield 190, 3) := by decide +kernel
theorem dX12_thingClause_55 : decode cX12_thingClause 55 = .ok (.aload_n 0, 1) := by decide +kernel
theorem dX12_thingClause_56 : decode cX12_thingClause 56 = .ok (.getfield 44, 3) := by decide +kernel
theorem dX12_thingClause_59 : decode cX12_thingClause 59 = .ok (.iload_n 2, 1) := by decide +kernel
theorem dX12_thingClause_60 : decode cX12_thingClause 60 = .ok (.iconst 1, 1) := by decide +kernel
theorem dX12_thingClause_61 : decode cX12_thingClause 61 = .ok (.iastore, 1) := by decide +kernel
theorem dX12_thingClause_62 : decode cX12_thingClause 62 = .ok (.aload_n 0, 1) := by decide +kernel
theorem dX12_thingClause_63 : decode cX12_thingClause 63 = .ok (.getfield 47, 3) := by decide +kernel
theorem dX12_thingClause_66 : decode cX12_thingClause 66 = .ok (.iload_n 2, 1) := by decide +kernel
theorem dX12_thingClause_67 : decode cX12_thingClause 67 = .ok (.aload_n 0, 1) := by decide +kernel
theorem dX12_thingClause_68 : decode cX12_thingClause 68 = .ok (.iconst 1, 1) := by decide +kernel
theorem dX12_thingClause_69 : decode cX12_thingClause 69 = .ok (.sipush 9999, 3) := by decide +kernel
theorem dX12_thingClause_72 : decode cX12_thingClause 72 = .ok (.invokevirtual 302, 3) := by decide +kernel
theorem dX12_thingClause_75 : decode cX12_thingClause 75 = .ok (.iastore, 1) := by decide +kernel
theorem dX12_thingClause_76 : decode cX12_thingClause 76 = .ok (.aload_n 0, 1) := by decide +kernel
theorem dX12_thingClause_77 : decode cX12_thingClause 77 = .ok (.getfield 50, 3) := by decide +kernel
theorem dX12_thingClause_80 : decode cX12_thingClause 80 = .ok (.iload_n 2, 1) := by decide +kernel
theorem dX12_thingClause_81 : decode cX12_thingClause 81 = .ok (.aload_n 0, 1) := by decide +kernel
theorem dX12_thingClause_82 : decode cX12_thingClause 82 = .ok (.iconst 0, 1) := by decide +kernel
theorem dX12_thingClause_83 : decode cX12_thingClause 83 = .ok (.sipush 999, 3) := by decide +kernel
theorem dX12_thingClause_86 : decode cX12_thingClause 86 = .ok (.invokevirtual 302, 3) := by decide +kernel
theorem dX12_thingClause_89 : decode cX12_thingClause 89 = .ok (.iastore, 1) := by decide +kernel
theorem dX12_thingClause_90 : decode cX12_thingClause 90 = .ok (.iconst 0, 1) := by decide +kernel
theorem dX12_thingClause_91 : decode cX12_thingClause 91 = .ok (.istore_n 3, 1) := by decide +kernel
theorem dX12_thingClause_92 : decode cX12_thingClause 92 = .ok (.aload_n 0, 1) := by decide +kernel
theorem dX12_thingClause_93 : decode cX12_thingClause 93 = .ok (.getfield 187, 3) := by decide +kernel
theorem dX12_thingClause_96 : decode cX12_thingClause 96 = .ok (.ifCond .ne 7, 3) := by decide +kernel
theorem dX12_thingClause_99 : decode cX12_thingClause 99 = .ok (.iconst 1, 1) := by decide +kernel
theorem dX12_thingClause_100 : decode cX12_thingClause 100 = .ok (.goto 4, 3) := by decide +kernel
theorem dX12_thingClause_103 : decode cX12_thingClause 103 = .ok (.iconst 0, 1) := by decide +kernel
theorem dX12_thingClause_104 : decode cX12_thingClause 104 = .ok (.istore 4, 2) := by decide +kernel
theorem dX12_thingClause_106 : decode cX12_thingClause 106 = .ok (.iload 4, 2) := by decide +kernel
theorem dX12_thingClause_108 : decode cX12_thingClause 108 = .ok (.ifCond .eq 115, 3) := by decide +kernel
theorem dX12_thingClause_111 : decode cX12_thingClause 111 = .ok (.aload_n 0, 1) := by decide +kernel
theorem dX12_thingClause_112 : decode cX12_thingClause 112 = .ok (.invokevirtual 213, 3) := by decide +kernel
theorem dX12_thingClause_115 : decode cX12_thingClause 115 = .ok (.iconst 0, 1) := by decide +kernel
theorem dX12_thingClause_116 : decode cX12_thingClause 116 = .ok (.istore 5, 2) := by decide +kernel
theorem dX12_thingClause_118 : decode cX12_thingClause 118 = .ok (.iload 5, 2) := by decide +kernel
theorem dX12_thingClause_120 : decode cX12_thingClause 120 = .ok (.iconst 4, 1) := by decide +kernel
theorem dX12_thingClause_121 : decode cX12_thingClause 121 = .ok (.if_icmp .ge 21, 3) := by decide +kernel
theorem dX12_thingClause_124 : decode cX12_thingClause 124 = .ok (.aload_n 0, 1) := by decide +kernel
theorem dX12_thingClause_125 : decode cX12_thingClause 125 = .ok (.iload 5, 2) := by decide +kernel
theorem dX12_thingClause_127 : decode cX12_thingClause 127 = .ok (.invokestatic 306, 3) := by decide +kernel
theorem dX12_thingClause_130 : decode cX12_thingClause 130 = .ok (.invokevirtual 216, 3) := by decide +kernel
theorem dX12_thingClause_133 : decode cX12_thingClause 133 = .ok (.ifCond .ne 9, 3) := by decide +kernel
theorem dX12_thingClause_136 : decode cX12_thingClause 136 = .ok (.iinc 5 1, 3) := by decide +kernel
theorem dX12_thingClause_139 : decode cX12_thingClause 139 = .ok (.goto (-21), 3) := by decide +kernel
theorem dX12_thingClause_142 : decode cX12_thingClause 142 = .ok (.iload 5, 2) := by decide +kernel
theorem dX12_thingClause_144 : decode cX12_thingClause 144 = .ok (.iconst 4, 1) := by decide +kernel
theorem dX12_thingClause_145 : decode cX12_thingClause 145 = .ok (.if_icmp .ge 7, 3) := by decide +kernel
theorem dX12_thingClause_148 : decode cX12_thingClause 148 = .ok (.iconst 1, 1) := by decide +kernel
theorem dX12_thingClause_149 : decode cX12_thingClause 149 = .ok (.goto 4, 3) := by decide +kernel
theorem dX12_thingClause_152 : decode cX12_thingClause 152 = .ok (.iconst 0, 1) := by decide +kernel
theorem dX12_thingClause_153 : decode cX12_thingClause 153 = .ok (.istore 4, 2) := by decide +kernel
theorem dX12_thingClause_155 : decode cX12_thingClause 155 = .ok (.iload 4, 2) := by decide +kernel
theorem dX12_thingClause_157 : decode cX12_thingClause 157 = .ok (.ifCond .eq 25, 3) := by decide +kernel
theorem dX12_thingClause_160 : decode cX12_thingClause 160 = .ok (.iload_n 3, 1) := by decide +kernel
theorem dX12_thingClause_161 : decode cX12_thingClause 161 = .ok (.iload 5, 2) := by decide +kernel
theorem dX12_thingClause_163 : decode cX12_thingClause 163 = .ok (.ishr, 1) := by decide +kernel
theorem dX12_thingClause_164 : decode cX12_thingClause 164 = .ok (.iconst 1, 1) := by decide +kernel
theorem dX12_thingClause_165 : decode cX12_thingClause 165 = .ok (.iand, 1) := by decide +kernel
theorem dX12_thingClause_166 : decode cX12_thingClause 166 = .ok (.iconst 1, 1) := by decide +kernel
theorem dX12_thingClause_167 : decode cX12_thingClause 167 = .ok (.if_icmp .ne 15, 3) := by decide +kernel
theorem dX12_thingClause_170 : decode cX12_thingClause 170 = .ok (.aload_n 0, 1) := by decide +kernel
theorem dX12_thingClause_171 : decode cX12_thingClause 171 = .ok (.iconst 4, 1) := by decide +kernel
theorem dX12_thingClause_172 : decode cX12_thingClause 172 = .ok (.aload_n 0, 1) := by decide +kernel
theorem dX12_thingClause_173 : decode cX12_thingClause 173 = .ok (.getfield 190, 3) := by decide +kernel
theorem dX12_thingClause_176 : decode cX12_thingClause 176 = .ok (.invokevirtual 226, 3) := by decide +kernel
theorem dX12_thingClause_179 : decode cX12_thingClause 179 = .ok (.goto 22, 3) := by decide +kernel
theorem dX12_thingClause_182 : decode cX12_thingClause 182 = .ok (.iload 4, 2) := by decide +kernel
theorem dX12_thingClause_184 : decode cX12_thingClause 184 = .ok (.ifCond .eq 17, 3) := by decide +kernel
theorem dX12_thingClause_187 : decode cX12_thingClause 187 = .ok (.iload_n 3, 1) := by decide +kernel
theorem dX12_thingClause_188 : decode cX12_thingClause 188 = .ok (.iconst 1, 1) := by decide +kernel
theorem dX12_thingClause_189 : decode cX12_thingClause 189 = .ok (.iload 5, 2) := by decide +kernel
theorem dX12_thingClause_191 : decode cX12_thingClause 191 = .ok (.ishl, 1) := by decide +kernel
theorem dX12_thingClause_192 : decode cX12_thingClause 192 = .ok (.ior, 1) := by decide +kernel
theorem dX12_thingClause_193 : decode cX12_thingClause 193 = .ok (.istore_n 3, 1) := by decide +kernel
theorem dX12_thingClause_194 : decode cX12_thingClause 194 = .ok (.aload_n 0, 1) := by decide +kernel
theorem dX12_thingClause_195 : decode cX12_thingClause 195 = .ok (.iload_n 2, 1) := by decide +kernel
theorem dX12_thingClause_196 : decode cX12_thingClause 196 = .ok (.iload 5, 2) := by decide +kernel
theorem dX12_thingClause_198 : decode cX12_thingClause 198 = .ok (.invokevirtual 309, 3) := by decide +kernel
theorem dX12_thingClause_201 : decode cX12_thingClause 201 = .ok (.iload 4, 2) := by decide +kernel
theorem dX12_thingClause_203 : decode cX12_thingClause 203 = .ok (.ifCond .eq 14, 3) := by decide +kernel
theorem dX12_thingClause_206 : decode cX12_thingClause 206 = .ok (.aload_n 0, 1) := by decide +kernel
theorem dX12_thingClause_207 : decode cX12_thingClause 207 = .ok (.getfield 187, 3) := by decide +kernel
theorem dX12_thingClause_210 : decode cX12_thingClause 210 = .ok (.ifCond .ne 7, 3) := by decide +kernel
theorem dX12_thingClause_213 : decode cX12_thingClause 213 = .ok (.iconst 1, 1) := by decide +kernel
theorem dX12_thingClause_214 : decode cX12_thingClause 214 = .ok (.goto 4, 3) := by decide +kernel
theorem dX12_thingClause_217 : decode cX12_thingClause 217 = .ok (.iconst 0, 1) := by decide +kernel
theorem dX12_thingClause_218 : decode cX12_thingClause 218 = .ok (.istore 4, 2) := by decide +kernel
theorem dX12_thingClause_220 : decode cX12_thingClause 220 = .ok (.goto (-114), 3) := by decide +kernel
theorem dX12_thingClause_223 : decode cX12_thingClause 223 = .ok (.return_, 1) := by decide +kernel
theorem dX12_extra_0 : decode cX12_extra 0 = .ok (.aload_n 0, 1) := by decide +kernel
theorem dX12_extra_1 : decode cX12_extra 1 = .ok (.dup, 1) := by decide +kernel
theorem dX12_extra_2 : decode cX12_extra 2 = .ok (.getfield 190, 3) := by decide +kernel
theorem dX12_extra_5 : decode cX12_extra 5 = .ok (.iload_n 2, 1) := by decide +kernel
theorem dX12_extra_6 : decode cX12_extra 6 = .ok (.invokestatic 306, 3) := by decide +kernel
theorem dX12_extra_9 : decode cX12_extra 9 = .ok (.invokevirtual 204, 3) := by decide +kernel
theorem dX12_extra_12 : decode cX12_extra 12 = .ok (.iadd, 1) := by decide +kernel
theorem dX12_extra_13 : decode cX12_extra 13 = .ok (.putfield 190, 3) := by decide +kernel
theorem dX12_extra_16 : decode cX12_extra 16 = .ok (.aload_n 0, 1) := by decide +kernel
theorem dX12_extra_17 : decode cX12_extra 17 = .ok (.iload_n 2, 1) := by decide +kernel
theorem dX12_extra_18 : decode cX12_extra 18 = .ok (.ifCond .ne 7, 3) := by decide +kernel
theorem dX12_extra_21 : decode cX12_extra 21 = .ok (.iconst 1, 1) := by decide +kernel
theorem dX12_extra_22 : decode cX12_extra 22 = .ok (.goto 4, 3) := by decide +kernel
theorem dX12_extra_25 : decode cX12_extra 25 = .ok (.iconst 0, 1) := by decide +kernel
theorem dX12_extra_26 : decode cX12_extra 26 = .ok (.iload_n 2, 1) := by decide +kernel
theorem dX12_extra_27 : decode cX12_extra 27 = .ok (.ifCond .ne 8, 3) := by decide +kernel
theorem dX12_extra_30 : decode cX12_extra 30 = .ok (.bipush 60, 2) := by decide +kernel
theorem dX12_extra_32 : decode cX12_extra 32 = .ok (.goto 6, 3) := by decide +kernel
theorem dX12_extra_35 : decode cX12_extra 35 = .ok (.sipush 9999, 3) := by decide +kernel
theorem dX12_extra_38 : decode cX12_extra 38 = .ok (.invokevirtual 302, 3) := by decide +kernel
theorem dX12_extra_41 : decode cX12_extra 41 = .ok (.istore_n 3, 1) := by decide +kernel
theorem dX12_extra_42 : decode cX12_extra 42 = .ok (.aload_n 0, 1) := by decide +kernel
theorem dX12_extra_43 : decode cX12_extra 43 = .ok (.getfield 53, 3) := by decide +kernel
theorem dX12_extra_46 : decode cX12_extra 46 = .ok (.iload_n 1, 1) := by decide +kernel
theorem dX12_extra_47 : decode cX12_extra 47 = .ok (.iload_n 2, 1) := by decide +kernel
theorem dX12_extra_48 : decode cX12_extra 48 = .ok (.ifCond .ne 7, 3) := by decide +kernel
theorem dX12_extra_51 : decode cX12_extra 51 = .ok (.iload_n 3, 1) := by decide +kernel
theorem dX12_extra_52 : decode cX12_extra 52 = .ok (.goto 9, 3) := by decide +kernel
theorem dX12_extra_55 : decode cX12_extra 55 = .ok (.aload_n 0, 1) := by decide +kernel
theorem dX12_extra_56 : decode cX12_extra 56 = .ok (.getfield 53, 3) := by decide +kernel
theorem dX12_extra_59 : decode cX12_extra 59 = .ok (.iload_n 1, 1) := by decide +kernel
theorem dX12_extra_60 : decode cX12_extra 60 = .ok (.iaload, 1) := by decide +kernel
theorem dX12_extra_61 : decode cX12_extra 61 = .ok (.iastore, 1) := by decide +kernel
theorem dX12_extra_62 : decode cX12_extra 62 = .ok (.aload_n 0, 1) := by decide +kernel
theorem dX12_extra_63 : decode cX12_extra 63 = .ok (.getfield 56, 3) := by decide +kernel
theorem dX12_extra_66 : decode cX12_extra 66 = .ok (.iload_n 1, 1) := by decide +kernel
theorem dX12_extra_67 : decode cX12_extra 67 = .ok (.iload_n 2, 1) := by decide +kernel
theorem dX12_extra_68 : decode cX12_extra 68 = .ok (.iconst 1, 1) := by decide +kernel
theorem dX12_extra_69 : decode cX12_extra 69 = .ok (.if_icmp .ne 7, 3) := by decide +kernel
theorem dX12_extra_72 : decode cX12_extra 72 = .ok (.iload_n 3, 1) := by decide +kernel
theorem dX12_extra_73 : decode cX12_extra 73 = .ok (.goto 9, 3) := by decide +kernel
theorem dX12_extra_76 : decode cX12_extra 76 = .ok (.aload_n 0, 1) := by decide +kernel
theorem dX12_extra_77 : decode cX12_extra 77 = .ok (.getfield 56, 3) := by decide +kernel
theorem dX12_extra_80 : decode cX12_extra 80 = .ok (.iload_n 1, 1) := by decide +kernel
theorem dX12_extra_81 : decode cX12_extra 81 = .ok (.iaload, 1) := by decide +kernel
theorem dX12_extra_82 : decode cX12_extra 82 = .ok (.iastore, 1) := by decide +kernel
theorem dX12_extra_83 : decode cX12_extra 83 = .ok (.aload_n 0, 1) := by decide +kernel
theorem dX12_extra_84 : decode cX12_extra 84 = .ok (.getfield 59, 3) := by decide +kernel
theorem dX12_extra_87 : decode cX12_extra 87 = .ok (.iload_n 1, 1) := by decide +kernel
theorem dX12_extra_88 : decode cX12_extra 88 = .ok (.iload_n 2, 1) := by decide +kernel
theorem dX12_extra_89 : decode cX12_extra 89 = .ok (.iconst 2, 1) := by decide +kernel
theorem dX12_extra_90 : decode cX12_extra 90 = .ok (.if_icmp .ne 7, 3) := by decide +kernel
theorem dX12_extra_93 : decode cX12_extra 93 = .ok (.iload_n 3, 1) := by decide +kernel
theorem dX12_extra_94 : decode cX12_extra 94 = .ok (.goto 9, 3) := by decide +kernel
theorem dX12_extra_97 : decode cX12_extra 97 = .ok (.aload_n 0, 1) := by decide +kernel
theorem dX12_extra_98 : decode cX12_extra 98 = .ok (.getfield 59, 3) := by decide +kernel
theorem dX12_extra_101 : decode cX12_extra 101 = .ok (.iload_n 1, 1) := by decide +kernel
theorem dX12_extra_102 : decode cX12_extra 102 = .ok (.iaload, 1) := by decide +kernel
theorem dX12_extra_103 : decode cX12_extra 103 = .ok (.iastore, 1) := by decide +kernel
theorem dX12_extra_104 : decode cX12_extra 104 = .ok (.aload_n 0, 1) := by decide +kernel
theorem dX12_extra_105 : decode cX12_extra 105 = .ok (.getfield 62, 3) := by decide +kernel
theorem dX12_extra_108 : decode cX12_extra 108 = .ok (.iload_n 1, 1) := by decide +kernel
theorem dX12_extra_109 : decode cX12_extra 109 = .ok (.iload_n 2, 1) := by decide +kernel
theorem dX12_extra_110 : decode cX12_extra 110 = .ok (.iconst 3, 1) := by decide +kernel
theorem dX12_extra_111 : decode cX12_extra 111 = .ok (.if_icmp .ne 7, 3) := by decide +kernel
theorem dX12_extra_114 : decode cX12_extra 114 = .ok (.iload_n 3, 1) := by decide +kernel
theorem dX12_extra_115 : decode cX12_extra 115 = .ok (.goto 9, 3) := by decide +kernel
theorem dX12_extra_118 : decode cX12_extra 118 = .ok (.aload_n 0, 1) := by decide +kernel
theorem dX12_extra_119 : decode cX12_extra 119 = .ok (.getfield 62, 3) := by decide +kernel
theorem dX12_extra_122 : decode cX12_extra 122 = .ok (.iload_n 1, 1) := by decide +kernel
theorem dX12_extra_123 : decode cX12_extra 123 = .ok (.iaload, 1) := by decide +kernel
theorem dX12_extra_124 : decode cX12_extra 124 = .ok (.iastore, 1) := by decide +kernel
theorem dX12_extra_125 : decode cX12_extra 125 = .ok (.return_, 1) := by decide +kernel
theorem dX12_setClause_0 : decode cX12_setClause 0 = .ok (.iconst 0, 1) := by decide +kernel
theorem dX12_setClause_1 : decode cX12_setClause 1 = .ok (.istore_n 2, 1) := by decide +kernel
theorem dX12_setClause_2 : decode cX12_setClause 2 = .ok (.aload_n 0, 1) := by decide +kernel
theorem dX12_setClause_3 : decode cX12_setClause 3 = .ok (.invokevirtual 299, 3) := by decide +kernel
theorem dX12_setClause_6 : decode cX12_setClause 6 = .ok (.istore_n 3, 1) := by decide +kernel
theorem dX12_setClause_7 : decode cX12_setClause 7 = .ok (.iload_n 3, 1) := by decide +kernel
theorem dX12_setClause_8 : decode cX12_setClause 8 = .ok (.iconst (-1), 1) := by decide +kernel
theorem dX12_setClause_9 : decode cX12_setClause 9 = .ok (.if_icmp .ne 12, 3) := by decide +kernel
theorem dX12_setClause_12 : decode cX12_setClause 12 = .ok (.aload_n 0, 1) := by decide +kernel
theorem dX12_setClause_13 : decode cX12_setClause 13 = .ok (.iconst 0, 1) := by decide +kernel
theorem dX12_setClause_14 : decode cX12_setClause 14 = .ok (.aload_n 0, 1) := by decide +kernel
theorem dX12_setClause_15 : decode cX12_setClause 15 = .ok (.getfield 190, 3) := by decide +kernel
theorem dX12_setClause_18 : decode cX12_setClause 18 = .ok (.invokevirtual 226, 3) := by decide +kernel
theorem dX12_setClause_21 : decode cX12_setClause 21 = .ok (.iload_n 3, 1) := by decide +kernel
theorem dX12_setClause_22 : decode cX12_setClause 22 = .ok (.iconst (-1), 1) := by decide +kernel
theorem dX12_setClause_23 : decode cX12_setClause 23 = .ok (.if_icmp .eq 64, 3) := by decide +kernel
theorem dX12_setClause_26 : decode cX12_setClause 26 = .ok (.aload_n 0, 1) := by decide +kernel
theorem dX12_setClause_27 : decode cX12_setClause 27 = .ok (.getfield 187, 3) := by decide +kernel
theorem dX12_setClause_30 : decode cX12_setClause 30 = .ok (.ifCond .ne 57, 3) := by decide +kernel
theorem dX12_setClause_33 : decode cX12_setClause 33 = .ok (.aload_n 0, 1) := by decide +kernel
theorem dX12_setClause_34 : decode cX12_setClause 34 = .ok (.getfield 44, 3) := by decide +kernel
theorem dX12_setClause_37 : decode cX12_setClause 37 = .ok (.bipush 8, 2) := by decide +kernel
theorem dX12_setClause_39 : decode cX12_setClause 39 = .ok (.iload_n 3, 1) := by decide +kernel
theorem dX12_setClause_40 : decode cX12_setClause 40 = .ok (.iadd, 1) := by decide +kernel
theorem dX12_setClause_41 : decode cX12_setClause 41 = .ok (.iaload, 1) := by decide +kernel
theorem dX12_setClause_42 : decode cX12_setClause 42 = .ok (.ifCond .eq 12, 3) := by decide +kernel
theorem dX12_setClause_45 : decode cX12_setClause 45 = .ok (.iload_n 2, 1) := by decide +kernel
theorem dX12_setClause_46 : decode cX12_setClause 46 = .ok (.iload_n 3, 1) := by decide +kernel
theorem dX12_setClause_47 : decode cX12_setClause 47 = .ok (.ishr, 1) := by decide +kernel
theorem dX12_setClause_48 : decode cX12_setClause 48 = .ok (.iconst 1, 1) := by decide +kernel
theorem dX12_setClause_49 : decode cX12_setClause 49 = .ok (.iand, 1) := by decide +kernel
theorem dX12_setClause_50 : decode cX12_setClause 50 = .ok (.iconst 1, 1) := by decide +kernel
theorem dX12_setClause_51 : decode cX12_setClause 51 = .ok (.if_icmp .ne 12, 3) := by decide +kernel
theorem dX12_setClause_54 : decode cX12_setClause 54 = .ok (.aload_n 0, 1) := by decide +kernel
theorem dX12_setClause_55 : decode cX12_setClause 55 = .ok (.iconst 5, 1) := by decide +kernel
theorem dX12_setClause_56 : decode cX12_setClause 56 = .ok (.aload_n 0, 1) := by decide +kernel
theorem dX12_setClause_57 : decode cX12_setClause 57 = .ok (.getfield 190, 3) := by decide +kernel
theorem dX12_setClause_60 : decode cX12_setClause 60 = .ok (.invokevirtual 226, 3) := by decide +kernel
theorem dX12_setClause_63 : decode cX12_setClause 63 = .ok (.iload_n 2, 1) := by decide +kernel
theorem dX12_setClause_64 : decode cX12_setClause 64 = .ok (.iconst 1, 1) := by decide +kernel
theorem dX12_setClause_65 : decode cX12_setClause 65 = .ok (.iload_n 3, 1) := by decide +kernel
theorem dX12_setClause_66 : decode cX12_setClause 66 = .ok (.ishl, 1) := by decide +kernel
theorem dX12_setClause_67 : decode cX12_setClause 67 = .ok (.ior, 1) := by decide +kernel
theorem dX12_setClause_68 : decode cX12_setClause 68 = .ok (.istore_n 2, 1) := by decide +kernel
theorem dX12_setClause_69 : decode cX12_setClause 69 = .ok (.aload_n 0, 1) := by decide +kernel
theorem dX12_setClause_70 : decode cX12_setClause 70 = .ok (.dup, 1) := by decide +kernel
theorem dX12_setClause_71 : decode cX12_setClause 71 = .ok (.getfield 190, 3) := by decide +kernel
theorem dX12_setClause_74 : decode cX12_setClause 74 = .ok (.iconst 1, 1) := by decide +kernel
theorem dX12_setClause_75 : decode cX12_setClause 75 = .ok (.iadd, 1) := by decide +kernel
theorem dX12_setClause_76 : decode cX12_setClause 76 = .ok (.putfield 190, 3) := by decide +kernel
theorem dX12_setClause_79 : decode cX12_setClause 79 = .ok (.aload_n 0, 1) := by decide +kernel
theorem dX12_setClause_80 : decode cX12_setClause 80 = .ok (.invokevirtual 299, 3) := by decide +kernel
theorem dX12_setClause_83 : decode cX12_setClause 83 = .ok (.istore_n 3, 1) := by decide +kernel
theorem dX12_setClause_84 : decode cX12_setClause 84 = .ok (.goto (-63), 3) := by decide +kernel
theorem dX12_setClause_87 : decode cX12_setClause 87 = .ok (.aload_n 0, 1) := by decide +kernel
theorem dX12_setClause_88 : decode cX12_setClause 88 = .ok (.getfield 187, 3) := by decide +kernel
theorem dX12_setClause_91 : decode cX12_setClause 91 = .ok (.ifCond .ne 22, 3) := by decide +kernel
theorem dX12_setClause_94 : decode cX12_setClause 94 = .ok (.aload_n 0, 1) := by decide +kernel
theorem dX12_setClause_95 : decode cX12_setClause 95 = .ok (.ldc_w 312, 3) := by decide +kernel
theorem dX12_setClause_98 : decode cX12_setClause 98 = .ok (.invokevirtual 293, 3) := by decide +kernel
theorem dX12_setClause_101 : decode cX12_setClause 101 = .ok (.ifCond .ne 12, 3) := by decide +kernel
theorem dX12_setClause_104 : decode cX12_setClause 104 = .ok (.aload_n 0, 1) := by decide +kernel
theorem dX12_setClause_105 : decode cX12_setClause 105 = .ok (.iconst 0, 1) := by decide +kernel
theorem dX12_setClause_106 : decode cX12_setClause 106 = .ok (.aload_n 0, 1) := by decide +kernel
theorem dX12_setClause_107 : decode cX12_setClause 107 = .ok (.getfield 190, 3) := by decide +kernel
theorem dX12_setClause_110 : decode cX12_setClause 110 = .ok (.invokevirtual 226, 3) := by decide +kernel
theorem dX12_setClause_113 : decode cX12_setClause 113 = .ok (.aload_n 0, 1) := by decide +kernel
theorem dX12_setClause_114 : decode cX12_setClause 114 = .ok (.getfield 26, 3) := by decide +kernel
theorem dX12_setClause_117 : decode cX12_setClause 117 = .ok (.iload_n 1, 1) := by decide +kernel
theorem dX12_setClause_118 : decode cX12_setClause 118 = .ok (.iload_n 2, 1) := by decide +kernel
theorem dX12_setClause_119 : decode cX12_setClause 119 = .ok (.iastore, 1) := by decide +kernel
theorem dX12_setClause_120 : decode cX12_setClause 120 = .ok (.aload_n 0, 1) := by decide +kernel
theorem dX12_setClause_121 : decode cX12_setClause 121 = .ok (.getfield 29, 3) := by decide +kernel
theorem dX12_setClause_124 : decode cX12_setClause 124 = .ok (.iload_n 1, 1) := by decide +kernel
theorem dX12_setClause_125 : decode cX12_setClause 125 = .ok (.aload_n 0, 1) := by decide +kernel
theorem dX12_setClause_126 : decode cX12_setClause 126 = .ok (.iconst 0, 1) := by decide +kernel
theorem dX12_setClause_127 : decode cX12_setClause 127 = .ok (.sipush 9999, 3) := by decide +kernel
theorem dX12_setClause_130 : decode cX12_setClause 130 = .ok (.invokevirtual 302, 3) := by decide +kernel
theorem dX12_setClause_133 : decode cX12_setClause 133 = .ok (.iastore, 1) := by decide +kernel
theorem dX12_setClause_134 : decode cX12_setClause 134 = .ok (.aload_n 0, 1) := by decide +kernel
theorem dX12_setClause_135 : decode cX12_setClause 135 = .ok (.getfield 35, 3) := by decide +kernel
theorem dX12_setClause_138 : decode cX12_setClause 138 = .ok (.iload_n 1, 1) := by decide +kernel
theorem dX12_setClause_139 : decode cX12_setClause 139 = .ok (.aload_n 0, 1) := by decide +kernel
theorem dX12_setClause_140 : decode cX12_setClause 140 = .ok (.getfield 220, 3) := by decide +kernel
theorem dX12_setClause_143 : decode cX12_setClause 143 = .ok (.iastore, 1) := by decide +kernel
theorem dX12_setClause_144 : decode cX12_setClause 144 = .ok (.aload_n 0, 1) := by decide +kernel
theorem dX12_setClause_145 : decode cX12_setClause 145 = .ok (.invokevirtual 314, 3) := by decide +kernel
theorem dX12_setClause_148 : decode cX12_setClause 148 = .ok (.return_, 1) := by decide +kernel
theorem dX12_onceClause_0 : decode cX12_onceClause 0 = .ok (.iload_n 1, 1) := by decide +kernel
theorem dX12_onceClause_1 : decode cX12_onceClause 1 = .ok (.iconst 3, 1) := by decide +kernel
theorem dX12_onceClause_2 : decode cX12_onceClause 2 = .ok (.if_icmp .ne 20, 3) := by decide +kernel
theorem dX12_onceClause_5 : decode cX12_onceClause 5 = .ok (.aload_n 0, 1) := by decide +kernel
theorem dX12_onceClause_6 : decode cX12_onceClause 6 = .ok (.getfield 65, 3) := by decide +kernel
theorem dX12_onceClause_9 : decode cX12_onceClause 9 = .ok (.iconst 1, 1) := by decide +kernel
theorem dX12_onceClause_10 : decode cX12_onceClause 10 = .ok (.aload_n 0, 1) := by decide +kernel
theorem dX12_onceClause_11 : decode cX12_onceClause 11 = .ok (.iconst 0, 1) := by decide +kernel
theorem dX12_onceClause_12 : decode cX12_onceClause 12 = .ok (.sipush 1000, 3) := by decide +kernel
theorem dX12_onceClause_15 : decode cX12_onceClause 15 = .ok (.invokevirtual 302, 3) := by decide +kernel
theorem dX12_onceClause_18 : decode cX12_onceClause 18 = .ok (.iastore, 1) := by decide +kernel
theorem dX12_onceClause_19 : decode cX12_onceClause 19 = .ok (.goto 100, 3) := by decide +kernel
theorem dX12_onceClause_22 : decode cX12_onceClause 22 = .ok (.iload_n 1, 1) := by decide +kernel
theorem dX12_onceClause_23 : decode cX12_onceClause 23 = .ok (.iconst 5, 1) := by decide +kernel
theorem dX12_onceClause_24 : decode cX12_onceClause 24 = .ok (.if_icmp .ne 20, 3) := by decide +kernel
theorem dX12_onceClause_27 : decode cX12_onceClause 27 = .ok (.aload_n 0, 1) := by decide +kernel
theorem dX12_onceClause_28 : decode cX12_onceClause 28 = .ok (.getfield 74, 3) := by decide +kernel
theorem dX12_onceClause_31 : decode cX12_onceClause 31 = .ok (.iconst 1, 1) := by decide +kernel
theorem dX12_onceClause_32 : decode cX12_onceClause 32 = .ok (.aload_n 0, 1) := by decide +kernel
theorem dX12_onceClause_33 : decode cX12_onceClause 33 = .ok (.iconst 0, 1) := by decide +kernel
theorem dX12_onceClause_34 : decode cX12_onceClause 34 = .ok (.sipush 9999, 3) := by decide +kernel
theorem dX12_onceClause_37 : decode cX12_onceClause 37 = .ok (.invokevirtual 302, 3) := by decide +kernel
theorem dX12_onceClause_40 : decode cX12_onceClause 40 = .ok (.iastore, 1) := by decide +kernel
theorem dX12_onceClause_41 : decode cX12_onceClause 41 = .ok (.goto 78, 3) := by decide +kernel
theorem dX12_onceClause_44 : decode cX12_onceClause 44 = .ok (.iload_n 1, 1) := by decide +kernel
theorem dX12_onceClause_45 : decode cX12_onceClause 45 = .ok (.bipush 6, 2) := by decide +kernel
theorem dX12_onceClause_47 : decode cX12_onceClause 47 = .ok (.if_icmp .ne 19, 3) := by decide +kernel
theorem dX12_onceClause_50 : decode cX12_onceClause 50 = .ok (.aload_n 0, 1) := by decide +kernel
theorem dX12_onceClause_51 : decode cX12_onceClause 51 = .ok (.getfield 77, 3) := by decide +kernel
theorem dX12_onceClause_54 : decode cX12_onceClause 54 = .ok (.iconst 1, 1) := by decide +kernel
theorem dX12_onceClause_55 : decode cX12_onceClause 55 = .ok (.aload_n 0, 1) := by decide +kernel
theorem dX12_onceClause_56 : decode cX12_onceClause 56 = .ok (.iconst 1, 1) := by decide +kernel
theorem dX12_onceClause_57 : decode cX12_onceClause 57 = .ok (.bipush 60, 2) := by decide +kernel
theorem dX12_onceClause_59 : decode cX12_onceClause 59 = .ok (.invokevirtual 302, 3) := by decide +kernel
theorem dX12_onceClause_62 : decode cX12_onceClause 62 = .ok (.iastore, 1) := by decide +kernel
theorem dX12_onceClause_63 : decode cX12_onceClause 63 = .ok (.goto 56, 3) := by decide +kernel
theorem dX12_onceClause_66 : decode cX12_onceClause 66 = .ok (.aload_n 0, 1) := by decide +kernel
theorem dX12_onceClause_67 : decode cX12_onceClause 67 = .ok (.getfield 68, 3) := by decide +kernel
theorem dX12_onceClause_70 : decode cX12_onceClause 70 = .ok (.iconst 1, 1) := by decide +kernel
theorem dX12_onceClause_71 : decode cX12_onceClause 71 = .ok (.aload_n 0, 1) := by decide +kernel
theorem dX12_onceClause_72 : decode cX12_onceClause 72 = .ok (.iconst 0, 1) := by decide +kernel
theorem dX12_onceClause_73 : decode cX12_onceClause 73 = .ok (.sipush 9999, 3) := by decide +kernel
theorem dX12_onceClause_76 : decode cX12_onceClause 76 = .ok (.invokevirtual 302, 3) := by decide +kernel
theorem dX12_onceClause_79 : decode cX12_onceClause 79 = .ok (.iastore, 1) := by decide +kernel
theorem dX12_onceClause_80 : decode cX12_onceClause 80 = .ok (.aload_n 0, 1) := by decide +kernel
theorem dX12_onceClause_81 : decode cX12_onceClause 81 = .ok (.getfield 187, 3) := by decide +kernel
theorem dX12_onceClause_84 : decode cX12_onceClause 84 = .ok (.ifCond .ne 22, 3) := by decide +kernel
theorem dX12_onceClause_87 : decode cX12_onceClause 87 = .ok (.aload_n 0, 1) := by decide +kernel
theorem dX12_onceClause_88 : decode cX12_onceClause 88 = .ok (.ldc_w 317, 3) := by decide +kernel
theorem dX12_onceClause_91 : decode cX12_onceClause 91 = .ok (.invokevirtual 293, 3) := by decide +kernel
theorem dX12_onceClause_94 : decode cX12_onceClause 94 = .ok (.ifCond .ne 12, 3) := by decide +kernel
theorem dX12_onceClause_97 : decode cX12_onceClause 97 = .ok (.aload_n 0, 1) := by decide +kernel
theorem dX12_onceClause_98 : decode cX12_onceClause 98 = .ok (.iconst 0, 1) := by decide +kernel
theorem dX12_onceClause_99 : decode cX12_onceClause 99 = .ok (.aload_n 0, 1) := by decide +kernel
theorem dX12_onceClause_100 : decode cX12_onceClause 100 = .ok (.getfield 190, 3) := by decide +kernel
theorem dX12_onceClause_103 : decode cX12_onceClause 103 = .ok (.invokevirtual 226, 3) := by decide +kernel
theorem dX12_onceClause_106 : decode cX12_onceClause 106 = .ok (.aload_n 0, 1) := by decide +kernel
theorem dX12_onceClause_107 : decode cX12_onceClause 107 = .ok (.getfield 71, 3) := by decide +kernel
theorem dX12_onceClause_110 : decode cX12_onceClause 110 = .ok (.iconst 1, 1) := by decide +kernel
theorem dX12_onceClause_111 : decode cX12_onceClause 111 = .ok (.aload_n 0, 1) := by decide +kernel
theorem dX12_onceClause_112 : decode cX12_onceClause 112 = .ok (.iconst 1, 1) := by decide +kernel
theorem dX12_onceClause_113 : decode cX12_onceClause 113 = .ok (.bipush 60, 2) := by decide +kernel
theorem dX12_onceClause_115 : decode cX12_onceClause 115 = .ok (.invokevirtual 302, 3) := by decide +kernel
theorem dX12_onceClause_118 : decode cX12_onceClause 118 = .ok (.iastore, 1) := by decide +kernel
theorem dX12_onceClause_119 : decode cX12_onceClause 119 = .ok (.return_, 1) := by decide +kernel
theorem dX12_bookClause_0 : decode cX12_bookClause 0 = .ok (.aload_n 0, 1) := by decide +kernel
theorem dX12_bookClause_1 : decode cX12_bookClause 1 = .ok (.invokevirtual 213, 3) := by decide +kernel
theorem dX12_bookClause_4 : decode cX12_bookClause 4 = .ok (.aload_n 0, 1) := by decide +kernel
theorem dX12_bookClause_5 : decode cX12_bookClause 5 = .ok (.getfield 190, 3) := by decide +kernel
theorem dX12_bookClause_8 : decode cX12_bookClause 8 = .ok (.istore_n 2, 1) := by decide +kernel
theorem dX12_bookClause_9 : decode cX12_bookClause 9 = .ok (.iconst 0, 1) := by decide +kernel
theorem dX12_bookClause_10 : decode cX12_bookClause 10 = .ok (.istore_n 3, 1) := by decide +kernel
theorem dX12_bookClause_11 : decode cX12_bookClause 11 = .ok (.iload_n 3, 1) := by decide +kernel
theorem dX12_bookClause_12 : decode cX12_bookClause 12 = .ok (.bipush 7, 2) := by decide +kernel
theorem dX12_bookClause_14 : decode cX12_bookClause 14 = .ok (.if_icmp .ge 20, 3) := by decide +kernel
theorem dX12_bookClause_17 : decode cX12_bookClause 17 = .ok (.aload_n 0, 1) := by decide +kernel
theorem dX12_bookClause_18 : decode cX12_bookClause 18 = .ok (.iload_n 3, 1) := by decide +kernel
theorem dX12_bookClause_19 : decode cX12_bookClause 19 = .ok (.invokestatic 318, 3) := by decide +kernel
theorem dX12_bookClause_22 : decode cX12_bookClause 22 = .ok (.invokevirtual 216, 3) := by decide +kernel
theorem dX12_bookClause_25 : decode cX12_bookClause 25 = .ok (.ifCond .ne 9, 3) := by decide +kernel
theorem dX12_bookClause_28 : decode cX12_bookClause 28 = .ok (.iinc 3 1, 3) := by decide +kernel
theorem dX12_bookClause_31 : decode cX12_bookClause 31 = .ok (.goto (-20), 3) := by decide +kernel
theorem dX12_bookClause_34 : decode cX12_bookClause 34 = .ok (.iload_n 3, 1) := by decide +kernel
theorem dX12_bookClause_35 : decode cX12_bookClause 35 = .ok (.bipush 7, 2) := by decide +kernel
theorem dX12_bookClause_37 : decode cX12_bookClause 37 = .ok (.if_icmp .ne 10, 3) := by decide +kernel
theorem dX12_bookClause_40 : decode cX12_bookClause 40 = .ok (.aload_n 0, 1) := by decide +kernel
theorem dX12_bookClause_41 : decode cX12_bookClause 41 = .ok (.iconst 0, 1) := by decide +kernel
theorem dX12_bookClause_42 : decode cX12_bookClause 42 = .ok (.iload_n 2, 1) := by decide +kernel
theorem dX12_bookClause_43 : decode cX12_bookClause 43 = .ok (.invokevirtual 226, 3) := by decide +kernel
theorem dX12_bookClause_46 : decode cX12_bookClause 46 = .ok (.return_, 1) := by decide +kernel
theorem dX12_bookClause_47 : decode cX12_bookClause 47 = .ok (.iload_n 1, 1) := by decide +kernel
theorem dX12_bookClause_48 : decode cX12_bookClause 48 = .ok (.bipush 24, 2) := by decide +kernel
theorem dX12_bookClause_50 : decode cX12_bookClause 50 = .ok (.if_icmp .eq 17, 3) := by decide +kernel
theorem dX12_bookClause_53 : decode cX12_bookClause 53 = .ok (.iload_n 3, 1) := by decide +kernel
theorem dX12_bookClause_54 : decode cX12_bookClause 54 = .ok (.iconst 2, 1) := by decide +kernel
theorem dX12_bookClause_55 : decode cX12_bookClause 55 = .ok (.if_icmp .le 19, 3) := by decide +kernel
theorem dX12_bookClause_58 : decode cX12_bookClause 58 = .ok (.aload_n 0, 1) := by decide +kernel
theorem dX12_bookClause_59 : decode cX12_bookClause 59 = .ok (.iload_n 1, 1) := by decide +kernel
theorem dX12_bookClause_60 : decode cX12_bookClause 60 = .ok (.iload_n 3, 1) := by decide +kernel
theorem dX12_bookClause_61 : decode cX12_bookClause 61 = .ok (.invokevirtual 321, 3) := by decide +kernel
theorem dX12_bookClause_64 : decode cX12_bookClause 64 = .ok (.ifCond .eq 10, 3) := by decide +kernel
theorem dX12_bookClause_67 : decode cX12_bookClause 67 = .ok (.aload_n 0, 1) := by decide +kernel
theorem dX12_bookClause_68 : decode cX12_bookClause 68 = .ok (.iconst 4, 1) := by decide +kernel
theorem dX12_bookClause_69 : decode cX12_bookClause 69 = .ok (.iload_n 2, 1) := by decide +kernel
theorem dX12_bookClause_70 : decode cX12_bookClause 70 = .ok (.invokevirtual 226, 3) := by decide +kernel
theorem dX12_bookClause_73 : decode cX12_bookClause 73 = .ok (.return_, 1) := by decide +kernel
theorem dX12_bookClause_74 : decode cX12_bookClause 74 = .ok (.aload_n 0, 1) := by decide +kernel
theorem dX12_bookClause_75 : decode cX12_bookClause 75 = .ok (.dup, 1) := by decide +kernel
theorem dX12_bookClause_76 : decode cX12_bookClause 76 = .ok (.getfield 190, 3) := by decide +kernel
theorem dX12_bookClause_79 : decode cX12_bookClause 79 = .ok (.iload_n 3, 1) := by decide +kernel
theorem dX12_bookClause_80 : decode cX12_bookClause 80 = .ok (.invokestatic 318, 3) := by decide +kernel
theorem dX12_bookClause_83 : decode cX12_bookClause 83 = .ok (.invokevirtual 204, 3) := by decide +kernel
theorem dX12_bookClause_86 : decode cX12_bookClause 86 = .ok (.iadd, 1) := by decide +kernel
theorem dX12_bookClause_87 : decode cX12_bookClause 87 = .ok (.putfield 190, 3) := by decide +kernel
theorem dX12_bookClause_90 : decode cX12_bookClause 90 = .ok (.bipush 24, 2) := by decide +kernel
theorem dX12_bookClause_92 : decode cX12_bookClause 92 = .ok (.aload_n 0, 1) := by decide +kernel
theorem dX12_bookClause_93 : decode cX12_bookClause 93 = .ok (.getfield 153, 3) := by decide +kernel
theorem dX12_bookClause_96 : decode cX12_bookClause 96 = .ok (.imul, 1) := by decide +kernel
theorem dX12_bookClause_97 : decode cX12_bookClause 97 = .ok (.iload_n 1, 1) := by decide +kernel
theorem dX12_bookClause_98 : decode cX12_bookClause 98 = .ok (.iadd, 1) := by decide +kernel
theorem dX12_bookClause_99 : decode cX12_bookClause 99 = .ok (.istore 4, 2) := by decide +kernel
theorem dX12_bookClause_101 : decode cX12_bookClause 101 = .ok (.aload_n 0, 1) := by decide +kernel
theorem dX12_bookClause_102 : decode cX12_bookClause 102 = .ok (.getfield 23, 3) := by decide +kernel
theorem dX12_bookClause_105 : decode cX12_bookClause 105 = .ok (.iload 4, 2) := by decide +kernel
theorem dX12_bookClause_107 : decode cX12_bookClause 107 = .ok (.iload_n 3, 1) := by decide +kernel
theorem dX12_bookClause_108 : decode cX12_bookClause 108 = .ok (.iastore, 1) := by decide +kernel
theorem dX12_bookClause_109 : decode cX12_bookClause 109 = .ok (.aload_n 0, 1) := by decide +kernel
theorem dX12_bookClause_110 : decode cX12_bookClause 110 = .ok (.getfield 35, 3) := by decide +kernel
theorem dX12_bookClause_113 : decode cX12_bookClause 113 = .ok (.iload 4, 2) := by decide +kernel
theorem dX12_bookClause_115 : decode cX12_bookClause 115 = .ok (.aload_n 0, 1) := by decide +kernel
theorem dX12_bookClause_116 : decode cX12_bookClause 116 = .ok (.getfield 220, 3) := by decide +kernel
theorem dX12_bookClause_119 : decode cX12_bookClause 119 = .ok (.iastore, 1) := by decide +kernel
theorem dX12_bookClause_120 : decode cX12_bookClause 120 = .ok (.iload_n 3, 1) := by decide +kernel
theorem dX12_bookClause_121 : decode cX12_bookClause 121 = .ok (.ifCond .ne 10, 3) := by decide +kernel
theorem dX12_bookClause_124 : decode cX12_bookClause 124 = .ok (.aload_n 0, 1) := by decide +kernel
theorem dX12_bookClause_125 : decode cX12_bookClause 125 = .ok (.invokevirtual 325, 3) := by decide +kernel
theorem dX12_bookClause_128 : decode cX12_bookClause 128 = .ok (.goto 49, 3) := by decide +kernel
theorem dX12_bookClause_131 : decode cX12_bookClause 131 = .ok (.iload_n 3, 1) := by decide +kernel
theorem dX12_bookClause_132 : decode cX12_bookClause 132 = .ok (.iconst 1, 1) := by decide +kernel
theorem dX12_bookClause_133 : decode cX12_bookClause 133 = .ok (.if_icmp .ne 12, 3) := by decide +kernel
theorem dX12_bookClause_136 : decode cX12_bookClause 136 = .ok (.aload_n 0, 1) := by decide +kernel
theorem dX12_bookClause_137 : decode cX12_bookClause 137 = .ok (.iload 4, 2) := by decide +kernel
theorem dX12_bookClause_139 : decode cX12_bookClause 139 = .ok (.invokevirtual 328, 3) := by decide +kernel
theorem dX12_bookClause_142 : decode cX12_bookClause 142 = .ok (.goto 35, 3) := by decide +kernel
theorem dX12_bookClause_145 : decode cX12_bookClause 145 = .ok (.iload_n 3, 1) := by decide +kernel
theorem dX12_bookClause_146 : decode cX12_bookClause 146 = .ok (.iconst 2, 1) := by decide +kernel
theorem dX12_bookClause_147 : decode cX12_bookClause 147 = .ok (.if_icmp .ne 25, 3) := by decide +kernel
theorem dX12_bookClause_150 : decode cX12_bookClause 150 = .ok (.aload_n 0, 1) := by decide +kernel
theorem dX12_bookClause_151 : decode cX12_bookClause 151 = .ok (.getfield 29, 3) := by decide +kernel
theorem dX12_bookClause_154 : decode cX12_bookClause 154 = .ok (.iload 4, 2) := by decide +kernel
theorem dX12_bookClause_156 : decode cX12_bookClause 156 = .ok (.aload_n 0, 1) := by decide +kernel
theorem dX12_bookClause_157 : decode cX12_bookClause 157 = .ok (.iconst 0, 1) := by decide +kernel
theorem dX12_bookClause_158 : decode cX12_bookClause 158 = .ok (.sipush 9999, 3) := by decide +kernel
theorem dX12_bookClause_161 : decode cX12_bookClause 161 = .ok (.invokevirtual 302, 3) := by decide +kernel
theorem dX12_bookClause_164 : decode cX12_bookClause 164 = .ok (.iastore, 1) := by decide +kernel
theorem dX12_bookClause_165 : decode cX12_bookClause 165 = .ok (.aload_n 0, 1) := by decide +kernel
theorem dX12_bookClause_166 : decode cX12_bookClause 166 = .ok (.invokevirtual 314, 3) := by decide +kernel
theorem dX12_bookClause_169 : decode cX12_bookClause 169 = .ok (.goto 8, 3) := by decide +kernel
theorem dX12_bookClause_172 : decode cX12_bookClause 172 = .ok (.aload_n 0, 1) := by decide +kernel
theorem dX12_bookClause_173 : decode cX12_bookClause 173 = .ok (.iload_n 3, 1) := by decide +kernel
theorem dX12_bookClause_174 : decode cX12_bookClause 174 = .ok (.invokevirtual 331, 3) := by decide +kernel
theorem dX12_bookClause_177 : decode cX12_bookClause 177 = .ok (.aload_n 0, 1) := by decide +kernel
theorem dX12_bookClause_178 : decode cX12_bookClause 178 = .ok (.getfield 38, 3) := by decide +kernel
theorem dX12_bookClause_181 : decode cX12_bookClause 181 = .ok (.iload 4, 2) := by decide +kernel
theorem dX12_bookClause_183 : decode cX12_bookClause 183 = .ok (.aload_n 0, 1) := by decide +kernel
theorem dX12_bookClause_184 : decode cX12_bookClause 184 = .ok (.getfield 220, 3) := by decide +kernel
theorem dX12_bookClause_187 : decode cX12_bookClause 187 = .ok (.iastore, 1) := by decide +kernel
theorem dX12_bookClause_188 : decode cX12_bookClause 188 = .ok (.return_, 1) := by decide +kernel
theorem dX12_ruleClause_0 : decode cX12_ruleClause 0 = .ok (.aload_n 0, 1) := by decide +kernel
theorem dX12_ruleClause_1 : decode cX12_ruleClause 1 = .ok (.invokevirtual 213, 3) := by decide +kernel
theorem dX12_ruleClause_4 : decode cX12_ruleClause 4 = .ok (.aload_n 0, 1) := by decide +kernel
theorem dX12_ruleClause_5 : decode cX12_ruleClause 5 = .ok (.getfield 190, 3) := by decide +kernel
theorem dX12_ruleClause_8 : decode cX12_ruleClause 8 = .ok (.istore_n 2, 1) := by decide +kernel
theorem dX12_ruleClause_9 : decode cX12_ruleClause 9 = .ok (.aload_n 0, 1) := by decide +kernel
theorem dX12_ruleClause_10 : decode cX12_ruleClause 10 = .ok (.ldc_w 334, 3) := by decide +kernel
theorem dX12_ruleClause_13 : decode cX12_ruleClause 13 = .ok (.invokevirtual 216, 3) := by decide +kernel
theorem dX12_ruleClause_16 : decode cX12_ruleClause 16 = .ok (.ifCond .eq 7, 3) := by decide +kernel
theorem dX12_ruleClause_19 : decode cX12_ruleClause 19 = .ok (.iconst 0, 1) := by decide +kernel
theorem dX12_ruleClause_20 : decode cX12_ruleClause 20 = .ok (.goto 18, 3) := by decide +kernel
theorem dX12_ruleClause_23 : decode cX12_ruleClause 23 = .ok (.aload_n 0, 1) := by decide +kernel
theorem dX12_ruleClause_24 : decode cX12_ruleClause 24 = .ok (.ldc_w 336, 3) := by decide +kernel
theorem dX12_ruleClause_27 : decode cX12_ruleClause 27 = .ok (.invokevirtual 216, 3) := by decide +kernel
theorem dX12_ruleClause_30 : decode cX12_ruleClause 30 = .ok (.ifCond .eq 7, 3) := by decide +kernel
theorem dX12_ruleClause_33 : decode cX12_ruleClause 33 = .ok (.iconst 1, 1) := by decide +kernel
theorem dX12_ruleClause_34 : decode cX12_ruleClause 34 = .ok (.goto 4, 3) := by decide +kernel
theorem dX12_ruleClause_37 : decode cX12_ruleClause 37 = .ok (.iconst (-1), 1) := by decide +kernel
theorem dX12_ruleClause_38 : decode cX12_ruleClause 38 = .ok (.istore_n 3, 1) := by decide +kernel
theorem dX12_ruleClause_39 : decode cX12_ruleClause 39 = .ok (.iload_n 3, 1) := by decide +kernel
theorem dX12_ruleClause_40 : decode cX12_ruleClause 40 = .ok (.iconst (-1), 1) := by decide +kernel
theorem dX12_ruleClause_41 : decode cX12_ruleClause 41 = .ok (.if_icmp .ne 10, 3) := by decide +kernel
theorem dX12_ruleClause_44 : decode cX12_ruleClause 44 = .ok (.aload_n 0, 1) := by decide +kernel
theorem dX12_ruleClause_45 : decode cX12_ruleClause 45 = .ok (.iconst 0, 1) := by decide +kernel
theorem dX12_ruleClause_46 : decode cX12_ruleClause 46 = .ok (.iload_n 2, 1) := by decide +kernel
theorem dX12_ruleClause_47 : decode cX12_ruleClause 47 = .ok (.invokevirtual 226, 3) := by decide +kernel
theorem dX12_ruleClause_50 : decode cX12_ruleClause 50 = .ok (.return_, 1) := by decide +kernel
theorem dX12_ruleClause_51 : decode cX12_ruleClause 51 = .ok (.iload_n 1, 1) := by decide +kernel
theorem dX12_ruleClause_52 : decode cX12_ruleClause 52 = .ok (.bipush 12, 2) := by decide +kernel
theorem dX12_ruleClause_54 : decode cX12_ruleClause 54 = .ok (.if_icmp .eq 17, 3) := by decide +kernel
theorem dX12_ruleClause_57 : decode cX12_ruleClause 57 = .ok (.iload_n 3, 1) := by decide +kernel
theorem dX12_ruleClause_58 : decode cX12_ruleClause 58 = .ok (.iconst 1, 1) := by decide +kernel
theorem dX12_ruleClause_59 : decode cX12_ruleClause 59 = .ok (.if_icmp .ne 19, 3) := by decide +kernel
theorem dX12_ruleClause_62 : decode cX12_ruleClause 62 = .ok (.aload_n 0, 1) := by decide +kernel
theorem dX12_ruleClause_63 : decode cX12_ruleClause 63 = .ok (.iload_n 1, 1) := by decide +kernel
theorem dX12_ruleClause_64 : decode cX12_ruleClause 64 = .ok (.iload_n 3, 1) := by decide +kernel
theorem dX12_ruleClause_65 : decode cX12_ruleClause 65 = .ok (.invokevirtual 321, 3) := by decide +kernel
theorem dX12_ruleClause_68 : decode cX12_ruleClause 68 = .ok (.ifCond .eq 10, 3) := by decide +kernel
theorem dX12_ruleClause_71 : decode cX12_ruleClause 71 = .ok (.aload_n 0, 1) := by decide +kernel
theorem dX12_ruleClause_72 : decode cX12_ruleClause 72 = .ok (.iconst 4, 1) := by decide +kernel
theorem dX12_ruleClause_73 : decode cX12_ruleClause 73 = .ok (.iload_n 2, 1) := by decide +kernel
theorem dX12_ruleClause_74 : decode cX12_ruleClause 74 = .ok (.invokevirtual 226, 3) := by decide +kernel
theorem dX12_ruleClause_77 : decode cX12_ruleClause 77 = .ok (.return_, 1) := by decide +kernel
theorem dX12_ruleClause_78 : decode cX12_ruleClause 78 = .ok (.aload_n 0, 1) := by decide +kernel
theorem dX12_ruleClause_79 : decode cX12_ruleClause 79 = .ok (.dup, 1) := by decide +kernel
theorem dX12_ruleClause_80 : decode cX12_ruleClause 80 = .ok (.getfield 190, 3) := by decide +kernel
theorem dX12_ruleClause_83 : decode cX12_ruleClause 83 = .ok (.iconst 4, 1) := by decide +kernel
theorem dX12_ruleClause_84 : decode cX12_ruleClause 84 = .ok (.iadd, 1) := by decide +kernel
theorem dX12_ruleClause_85 : decode cX12_ruleClause 85 = .ok (.putfield 190, 3) := by decide +kernel
theorem dX12_ruleClause_88 : decode cX12_ruleClause 88 = .ok (.bipush 24, 2) := by decide +kernel
theorem dX12_ruleClause_90 : decode cX12_ruleClause 90 = .ok (.aload_n 0, 1) := by decide +kernel
theorem dX12_ruleClause_91 : decode cX12_ruleClause 91 = .ok (.getfield 153, 3) := by decide +kernel
theorem dX12_ruleClause_94 : decode cX12_ruleClause 94 = .ok (.imul, 1) := by decide +kernel
theorem dX12_ruleClause_95 : decode cX12_ruleClause 95 = .ok (.iload_n 1, 1) := by decide +kernel
theorem dX12_ruleClause_96 : decode cX12_ruleClause 96 = .ok (.iadd, 1) := by decide +kernel
theorem dX12_ruleClause_97 : decode cX12_ruleClause 97 = .ok (.istore 4, 2) := by decide +kernel
theorem dX12_ruleClause_99 : decode cX12_ruleClause 99 = .ok (.aload_n 0, 1) := by decide +kernel
theorem dX12_ruleClause_100 : decode cX12_ruleClause 100 = .ok (.getfield 23, 3) := by decide +kernel
theorem dX12_ruleClause_103 : decode cX12_ruleClause 103 = .ok (.iload 4, 2) := by decide +kernel
theorem dX12_ruleClause_105 : decode cX12_ruleClause 105 = .ok (.iload_n 3, 1) := by decide +kernel
theorem dX12_ruleClause_106 : decode cX12_ruleClause 106 = .ok (.iastore, 1) := by decide +kernel
theorem dX12_ruleClause_107 : decode cX12_ruleClause 107 = .ok (.aload_n 0, 1) := by decide +kernel
theorem dX12_ruleClause_108 : decode cX12_ruleClause 108 = .ok (.getfield 32, 3) := by decide +kernel
theorem dX12_ruleClause_111 : decode cX12_ruleClause 111 = .ok (.iload 4, 2) := by decide +kernel
theorem dX12_ruleClause_113 : decode cX12_ruleClause 113 = .ok (.aload_n 0, 1) := by decide +kernel
theorem dX12_ruleClause_114 : decode cX12_ruleClause 114 = .ok (.getfield 220, 3) := by decide +kernel
theorem dX12_ruleClause_117 : decode cX12_ruleClause 117 = .ok (.iastore, 1) := by decide +kernel
theorem dX12_ruleClause_118 : decode cX12_ruleClause 118 = .ok (.iload_n 3, 1) := by decide +kernel
theorem dX12_ruleClause_119 : decode cX12_ruleClause 119 = .ok (.iconst 1, 1) := by decide +kernel
theorem dX12_ruleClause_120 : decode cX12_ruleClause 120 = .ok (.if_icmp .ne 21, 3) := by decide +kernel
theorem dX12_ruleClause_123 : decode cX12_ruleClause 123 = .ok (.aload_n 0, 1) := by decide +kernel
theorem dX12_ruleClause_124 : decode cX12_ruleClause 124 = .ok (.getfield 29, 3) := by decide +kernel
theorem dX12_ruleClause_127 : decode cX12_ruleClause 127 = .ok (.iload 4, 2) := by decide +kernel
theorem dX12_ruleClause_129 : decode cX12_ruleClause 129 = .ok (.aload_n 0, 1) := by decide +kernel
theorem dX12_ruleClause_130 : decode cX12_ruleClause 130 = .ok (.iconst 0, 1) := by decide +kernel
theorem dX12_ruleClause_131 : decode cX12_ruleClause 131 = .ok (.sipush 9999, 3) := by decide +kernel
theorem dX12_ruleClause_134 : decode cX12_ruleClause 134 = .ok (.invokevirtual 302, 3) := by decide +kernel
theorem dX12_ruleClause_137 : decode cX12_ruleClause 137 = .ok (.iastore, 1) := by decide +kernel
theorem dX12_ruleClause_138 : decode cX12_ruleClause 138 = .ok (.goto 7, 3) := by decide +kernel
theorem dX12_ruleClause_141 : decode cX12_ruleClause 141 = .ok (.aload_n 0, 1) := by decide +kernel
theorem dX12_ruleClause_142 : decode cX12_ruleClause 142 = .ok (.invokevirtual 257, 3) := by decide +kernel
theorem dX12_ruleClause_145 : decode cX12_ruleClause 145 = .ok (.aload_n 0, 1) := by decide +kernel
theorem dX12_ruleClause_146 : decode cX12_ruleClause 146 = .ok (.getfield 35, 3) := by decide +kernel
theorem dX12_ruleClause_149 : decode cX12_ruleClause 149 = .ok (.iload 4, 2) := by decide +kernel
theorem dX12_ruleClause_151 : decode cX12_ruleClause 151 = .ok (.aload_n 0, 1) := by decide +kernel
theorem dX12_ruleClause_152 : decode cX12_ruleClause 152 = .ok (.getfield 220, 3) := by decide +kernel
theorem dX12_ruleClause_155 : decode cX12_ruleClause 155 = .ok (.iastore, 1) := by decide +kernel
theorem dX12_ruleClause_156 : decode cX12_ruleClause 156 = .ok (.iload_n 3, 1) := by decide +kernel
theorem dX12_ruleClause_157 : decode cX12_ruleClause 157 = .ok (.ifCond .ne 7, 3) := by decide +kernel
theorem dX12_ruleClause_160 : decode cX12_ruleClause 160 = .ok (.aload_n 0, 1) := by decide +kernel
theorem dX12_ruleClause_161 : decode cX12_ruleClause 161 = .ok (.invokevirtual 314, 3) := by decide +kernel
theorem dX12_ruleClause_164 : decode cX12_ruleClause 164 = .ok (.aload_n 0, 1) := by decide +kernel
theorem dX12_ruleClause_165 : decode cX12_ruleClause 165 = .ok (.getfield 38, 3) := by decide +kernel
theorem dX12_ruleClause_168 : decode cX12_ruleClause 168 = .ok (.iload 4, 2) := by decide +kernel
theorem dX12_ruleClause_170 : decode cX12_ruleClause 170 = .ok (.aload_n 0, 1) := by decide +kernel
theorem dX12_ruleClause_171 : decode cX12_ruleClause 171 = .ok (.getfield 220, 3) := by decide +kernel
theorem dX12_ruleClause_174 : decode cX12_ruleClause 174 = .ok (.iastore, 1) := by decide +kernel
theorem dX12_ruleClause_175 : decode cX12_ruleClause 175 = .ok (.return_, 1) := by decide +kernel
theorem dX12_reads_0 : decode cX12_reads 0 = .ok (.aload_n 0, 1) := by decide +kernel
theorem dX12_reads_1 : decode cX12_reads 1 = .ok (.iconst 0, 1) := by decide +kernel
theorem dX12_reads_2 : decode cX12_reads 2 = .ok (.putfield 190, 3) := by decide +kernel
theorem dX12_reads_5 : decode cX12_reads 5 = .ok (.aload_n 0, 1) := by decide +kernel
theorem dX12_reads_6 : decode cX12_reads 6 = .ok (.iconst 0, 1) := by decide +kernel
theorem dX12_reads_7 : decode cX12_reads 7 = .ok (.putfield 187, 3) := by decide +kernel
theorem dX12_reads_10 : decode cX12_reads 10 = .ok (.aload_n 0, 1) := by decide +kernel
theorem dX12_reads_11 : decode cX12_reads 11 = .ok (.iconst 0, 1) := by decide +kernel
theorem dX12_reads_12 : decode cX12_reads 12 = .ok (.putfield 220, 3) := by decide +kernel
theorem dX12_reads_15 : decode cX12_reads 15 = .ok (.aload_n 0, 1) := by decide +kernel
theorem dX12_reads_16 : decode cX12_reads 16 = .ok (.iconst 0, 1) := by decide +kernel
theorem dX12_reads_17 : decode cX12_reads 17 = .ok (.putfield 263, 3) := by decide +kernel
theorem dX12_reads_20 : decode cX12_reads 20 = .ok (.aload_n 0, 1) := by decide +kernel
theorem dX12_reads_21 : decode cX12_reads 21 = .ok (.iconst 0, 1) := by decide +kernel
theorem dX12_reads_22 : decode cX12_reads 22 = .ok (.putfield 223, 3) := by decide +kernel
theorem dX12_reads_25 : decode cX12_reads 25 = .ok (.aload_n 0, 1) := by decide +kernel
theorem dX12_reads_26 : decode cX12_reads 26 = .ok (.aload_n 0, 1) := by decide +kernel
theorem dX12_reads_27 : decode cX12_reads 27 = .ok (.getfield 153, 3) := by decide +kernel
theorem dX12_reads_30 : decode cX12_reads 30 = .ok (.iconst 1, 1) := by decide +kernel
theorem dX12_reads_31 : decode cX12_reads 31 = .ok (.if_icmp .le 8, 3) := by decide +kernel
theorem dX12_reads_34 : decode cX12_reads 34 = .ok (.bipush 9, 2) := by decide +kernel
theorem dX12_reads_36 : decode cX12_reads 36 = .ok (.goto 4, 3) := by decide +kernel
theorem dX12_reads_39 : decode cX12_reads 39 = .ok (.iconst 3, 1) := by decide +kernel
theorem dX12_reads_40 : decode cX12_reads 40 = .ok (.putfield 245, 3) := by decide +kernel
theorem dX12_reads_43 : decode cX12_reads 43 = .ok (.iconst 0, 1) := by decide +kernel
theorem dX12_reads_44 : decode cX12_reads 44 = .ok (.istore_n 1, 1) := by decide +kernel
theorem dX12_reads_45 : decode cX12_reads 45 = .ok (.iconst 1, 1) := by decide +kernel
theorem dX12_reads_46 : decode cX12_reads 46 = .ok (.istore_n 2, 1) := by decide +kernel
theorem dX12_reads_47 : decode cX12_reads 47 = .ok (.iload_n 2, 1) := by decide +kernel
theorem dX12_reads_48 : decode cX12_reads 48 = .ok (.ifCond .eq 104, 3) := by decide +kernel
theorem dX12_reads_51 : decode cX12_reads 51 = .ok (.aload_n 0, 1) := by decide +kernel
theorem dX12_reads_52 : decode cX12_reads 52 = .ok (.getfield 153, 3) := by decide +kernel
theorem dX12_reads_55 : decode cX12_reads 55 = .ok (.iconst 1, 1) := by decide +kernel
theorem dX12_reads_56 : decode cX12_reads 56 = .ok (.if_icmp .le 11, 3) := by decide +kernel
theorem dX12_reads_59 : decode cX12_reads 59 = .ok (.aload_n 0, 1) := by decide +kernel
theorem dX12_reads_60 : decode cX12_reads 60 = .ok (.iload_n 1, 1) := by decide +kernel
theorem dX12_reads_61 : decode cX12_reads 61 = .ok (.invokevirtual 338, 3) := by decide +kernel
theorem dX12_reads_64 : decode cX12_reads 64 = .ok (.goto 8, 3) := by decide +kernel
theorem dX12_reads_67 : decode cX12_reads 67 = .ok (.aload_n 0, 1) := by decide +kernel
theorem dX12_reads_68 : decode cX12_reads 68 = .ok (.iload_n 1, 1) := by decide +kernel
theorem dX12_reads_69 : decode cX12_reads 69 = .ok (.invokevirtual 341, 3) := by decide +kernel
theorem dX12_reads_72 : decode cX12_reads 72 = .ok (.iinc 1 1, 3) := by decide +kernel
theorem dX12_reads_75 : decode cX12_reads 75 = .ok (.aload_n 0, 1) := by decide +kernel
theorem dX12_reads_76 : decode cX12_reads 76 = .ok (.invokevirtual 213, 3) := by decide +kernel
theorem dX12_reads_79 : decode cX12_reads 79 = .ok (.aload_n 0, 1) := by decide +kernel
theorem dX12_reads_80 : decode cX12_reads 80 = .ok (.getfield 187, 3) := by decide +kernel
theorem dX12_reads_83 : decode cX12_reads 83 = .ok (.ifCond .ne 32, 3) := by decide +kernel
theorem dX12_reads_86 : decode cX12_reads 86 = .ok (.aload_n 0, 1) := by decide +kernel
theorem dX12_reads_87 : decode cX12_reads 87 = .ok (.getfield 190, 3) := by decide +kernel
theorem dX12_reads_90 : decode cX12_reads 90 = .ok (.aload_n 0, 1) := by decide +kernel
theorem dX12_reads_91 : decode cX12_reads 91 = .ok (.getfield 147, 3) := by decide +kernel
theorem dX12_reads_94 : decode cX12_reads 94 = .ok (.if_icmp .ge 21, 3) := by decide +kernel
theorem dX12_reads_97 : decode cX12_reads 97 = .ok (.aload_n 0, 1) := by decide +kernel
theorem dX12_reads_98 : decode cX12_reads 98 = .ok (.invokevirtual 193, 3) := by decide +kernel
theorem dX12_reads_101 : decode cX12_reads 101 = .ok (.bipush 59, 2) := by decide +kernel
theorem dX12_reads_103 : decode cX12_reads 103 = .ok (.if_icmp .eq 12, 3) := by decide +kernel
theorem dX12_reads_106 : decode cX12_reads 106 = .ok (.aload_n 0, 1) := by decide +kernel
theorem dX12_reads_107 : decode cX12_reads 107 = .ok (.iconst 0, 1) := by decide +kernel
theorem dX12_reads_108 : decode cX12_reads 108 = .ok (.aload_n 0, 1) := by decide +kernel
theorem dX12_reads_109 : decode cX12_reads 109 = .ok (.getfield 190, 3) := by decide +kernel
theorem dX12_reads_112 : decode cX12_reads 112 = .ok (.invokevirtual 226, 3) := by decide +kernel
theorem dX12_reads_115 : decode cX12_reads 115 = .ok (.aload_n 0, 1) := by decide +kernel
theorem dX12_reads_116 : decode cX12_reads 116 = .ok (.getfield 187, 3) := by decide +kernel
theorem dX12_reads_119 : decode cX12_reads 119 = .ok (.ifCond .ne 18, 3) := by decide +kernel
theorem dX12_reads_122 : decode cX12_reads 122 = .ok (.aload_n 0, 1) := by decide +kernel
theorem dX12_reads_123 : decode cX12_reads 123 = .ok (.getfield 190, 3) := by decide +kernel
theorem dX12_reads_126 : decode cX12_reads 126 = .ok (.aload_n 0, 1) := by decide +kernel
theorem dX12_reads_127 : decode cX12_reads 127 = .ok (.getfield 147, 3) := by decide +kernel
theorem dX12_reads_130 : decode cX12_reads 130 = .ok (.if_icmp .ge 7, 3) := by decide +kernel
theorem dX12_reads_133 : decode cX12_reads 133 = .ok (.iconst 1, 1) := by decide +kernel
theorem dX12_reads_134 : decode cX12_reads 134 = .ok (.goto 4, 3) := by decide +kernel
theorem dX12_reads_137 : decode cX12_reads 137 = .ok (.iconst 0, 1) := by decide +kernel
theorem dX12_reads_138 : decode cX12_reads 138 = .ok (.istore_n 2, 1) := by decide +kernel
theorem dX12_reads_139 : decode cX12_reads 139 = .ok (.aload_n 0, 1) := by decide +kernel
theorem dX12_reads_140 : decode cX12_reads 140 = .ok (.dup, 1) := by decide +kernel
theorem dX12_reads_141 : decode cX12_reads 141 = .ok (.getfield 190, 3) := by decide +kernel
theorem dX12_reads_144 : decode cX12_reads 144 = .ok (.iconst 1, 1) := by decide +kernel
theorem dX12_reads_145 : decode cX12_reads 145 = .ok (.iadd, 1) := by decide +kernel
theorem dX12_reads_146 : decode cX12_reads 146 = .ok (.putfield 190, 3) := by decide +kernel
theorem dX12_reads_149 : decode cX12_reads 149 = .ok (.goto (-102), 3) := by decide +kernel
theorem dX12_reads_152 : decode cX12_reads 152 = .ok (.aload_n 0, 1) := by decide +kernel
theorem dX12_reads_153 : decode cX12_reads 153 = .ok (.iconst 0, 1) := by decide +kernel
theorem dX12_reads_154 : decode cX12_reads 154 = .ok (.putfield 147, 3) := by decide +kernel
theorem dX12_reads_157 : decode cX12_reads 157 = .ok (.aload_n 0, 1) := by decide +kernel
theorem dX12_reads_158 : decode cX12_reads 158 = .ok (.getfield 20, 3) := by decide +kernel
theorem dX12_reads_161 : decode cX12_reads 161 = .ok (.aload_n 0, 1) := by decide +kernel
theorem dX12_reads_162 : decode cX12_reads 162 = .ok (.getfield 153, 3) := by decide +kernel
theorem dX12_reads_165 : decode cX12_reads 165 = .ok (.iload_n 1, 1) := by decide +kernel
theorem dX12_reads_166 : decode cX12_reads 166 = .ok (.iastore, 1) := by decide +kernel
theorem dX12_reads_167 : decode cX12_reads 167 = .ok (.aload_n 0, 1) := by decide +kernel
theorem dX12_reads_168 : decode cX12_reads 168 = .ok (.getfield 187, 3) := by decide +kernel
theorem dX12_reads_171 : decode cX12_reads 171 = .ok (.ireturn, 1) := by decide +kernel
theorem dX12_over_0 : decode cX12_over 0 = .ok (.iconst 0, 1) := by decide +kernel
theorem dX12_over_1 : decode cX12_over 1 = .ok (.istore_n 2, 1) := by decide +kernel
theorem dX12_over_2 : decode cX12_over 2 = .ok (.iload_n 2, 1) := by decide +kernel
theorem dX12_over_3 : decode cX12_over 3 = .ok (.iload_n 1, 1) := by decide +kernel
theorem dX12_over_4 : decode cX12_over 4 = .ok (.if_icmp .ge 17, 3) := by decide +kernel
theorem dX12_over_7 : decode cX12_over 7 = .ok (.aload_n 0, 1) := by decide +kernel
theorem dX12_over_8 : decode cX12_over 8 = .ok (.iload_n 2, 1) := by decide +kernel
theorem dX12_over_9 : decode cX12_over 9 = .ok (.aload_n 0, 1) := by decide +kernel
theorem dX12_over_10 : decode cX12_over 10 = .ok (.iload_n 1, 1) := by decide +kernel
theorem dX12_over_11 : decode cX12_over 11 = .ok (.iload_n 2, 1) := by decide +kernel
theorem dX12_over_12 : decode cX12_over 12 = .ok (.iadd, 1) := by decide +kernel
theorem dX12_over_13 : decode cX12_over 13 = .ok (.iaload, 1) := by decide +kernel
theorem dX12_over_14 : decode cX12_over 14 = .ok (.iastore, 1) := by decide +kernel
theorem dX12_over_15 : decode cX12_over 15 = .ok (.iinc 2 1, 3) := by decide +kernel
theorem dX12_over_18 : decode cX12_over 18 = .ok (.goto (-16), 3) := by decide +kernel
theorem dX12_over_21 : decode cX12_over 21 = .ok (.return_, 1) := by decide +kernel
theorem dX12_book_0 : decode cX12_book 0 = .ok (.aload_n 0, 1) := by decide +kernel
theorem dX12_book_1 : decode cX12_book 1 = .ok (.iconst 1, 1) := by decide +kernel
theorem dX12_book_2 : decode cX12_book 2 = .ok (.putfield 153, 3) := by decide +kernel
theorem dX12_book_5 : decode cX12_book 5 = .ok (.aload_n 0, 1) := by decide +kernel
theorem dX12_book_6 : decode cX12_book 6 = .ok (.iconst 1, 1) := by decide +kernel
theorem dX12_book_7 : decode cX12_book 7 = .ok (.invokevirtual 139, 3) := by decide +kernel
theorem dX12_book_10 : decode cX12_book 10 = .ok (.aload_n 0, 1) := by decide +kernel
theorem dX12_book_11 : decode cX12_book 11 = .ok (.invokevirtual 344, 3) := by decide +kernel
theorem dX12_book_14 : decode cX12_book 14 = .ok (.istore_n 1, 1) := by decide +kernel
theorem dX12_book_15 : decode cX12_book 15 = .ok (.iload_n 1, 1) := by decide +kernel
theorem dX12_book_16 : decode cX12_book 16 = .ok (.ifCond .le 8, 3) := by decide +kernel
theorem dX12_book_19 : decode cX12_book 19 = .ok (.bipush (-2), 2) := by decide +kernel
theorem dX12_book_21 : decode cX12_book 21 = .ok (.iload_n 1, 1) := by decide +kernel
theorem dX12_book_22 : decode cX12_book 22 = .ok (.isub, 1) := by decide +kernel
theorem dX12_book_23 : decode cX12_book 23 = .ok (.ireturn, 1) := by decide +kernel
theorem dX12_book_24 : decode cX12_book 24 = .ok (.aload_n 0, 1) := by decide +kernel
theorem dX12_book_25 : decode cX12_book 25 = .ok (.getfield 13, 3) := by decide +kernel
theorem dX12_book_28 : decode cX12_book 28 = .ok (.sipush 300, 3) := by decide +kernel
theorem dX12_book_31 : decode cX12_book 31 = .ok (.invokestatic 347, 3) := by decide +kernel
theorem dX12_book_34 : decode cX12_book 34 = .ok (.aload_n 0, 1) := by decide +kernel
theorem dX12_book_35 : decode cX12_book 35 = .ok (.getfield 17, 3) := by decide +kernel
theorem dX12_book_38 : decode cX12_book 38 = .ok (.sipush 300, 3) := by decide +kernel
theorem dX12_book_41 : decode cX12_book 41 = .ok (.invokestatic 347, 3) := by decide +kernel
theorem dX12_book_44 : decode cX12_book 44 = .ok (.aload_n 0, 1) := by decide +kernel
theorem dX12_book_45 : decode cX12_book 45 = .ok (.getfield 20, 3) := by decide +kernel
theorem dX12_book_48 : decode cX12_book 48 = .ok (.iconst 1, 1) := by decide +kernel
theorem dX12_book_49 : decode cX12_book 49 = .ok (.invokestatic 347, 3) := by decide +kernel
theorem dX12_book_52 : decode cX12_book 52 = .ok (.aload_n 0, 1) := by decide +kernel
theorem dX12_book_53 : decode cX12_book 53 = .ok (.getfield 23, 3) := by decide +kernel
theorem dX12_book_56 : decode cX12_book 56 = .ok (.bipush 24, 2) := by decide +kernel
theorem dX12_book_58 : decode cX12_book 58 = .ok (.invokestatic 347, 3) := by decide +kernel
theorem dX12_book_61 : decode cX12_book 61 = .ok (.aload_n 0, 1) := by decide +kernel
theorem dX12_book_62 : decode cX12_book 62 = .ok (.getfield 26, 3) := by decide +kernel
theorem dX12_book_65 : decode cX12_book 65 = .ok (.bipush 24, 2) := by decide +kernel
theorem dX12_book_67 : decode cX12_book 67 = .ok (.invokestatic 347, 3) := by decide +kernel
theorem dX12_book_70 : decode cX12_book 70 = .ok (.aload_n 0, 1) := by decide +kernel
theorem dX12_book_71 : decode cX12_book 71 = .ok (.getfield 29, 3) := by decide +kernel
theorem dX12_book_74 : decode cX12_book 74 = .ok (.bipush 24, 2) := by decide +kernel
theorem dX12_book_76 : decode cX12_book 76 = .ok (.invokestatic 347, 3) := by decide +kernel
theorem dX12_book_79 : decode cX12_book 79 = .ok (.aload_n 0, 1) := by decide +kernel
theorem dX12_book_80 : decode cX12_book 80 = .ok (.getfield 35, 3) := by decide +kernel
theorem dX12_book_83 : decode cX12_book 83 = .ok (.bipush 24, 2) := by decide +kernel
theorem dX12_book_85 : decode cX12_book 85 = .ok (.invokestatic 347, 3) := by decide +kernel
theorem dX12_book_88 : decode cX12_book 88 = .ok (.aload_n 0, 1) := by decide +kernel
theorem dX12_book_89 : decode cX12_book 89 = .ok (.getfield 38, 3) := by decide +kernel
theorem dX12_book_92 : decode cX12_book 92 = .ok (.bipush 24, 2) := by decide +kernel
theorem dX12_book_94 : decode cX12_book 94 = .ok (.invokestatic 347, 3) := by decide +kernel
theorem dX12_book_97 : decode cX12_book 97 = .ok (.aload_n 0, 1) := by decide +kernel
theorem dX12_book_98 : decode cX12_book 98 = .ok (.getfield 44, 3) := by decide +kernel
theorem dX12_book_101 : decode cX12_book 101 = .ok (.bipush 8, 2) := by decide +kernel
theorem dX12_book_103 : decode cX12_book 103 = .ok (.invokestatic 347, 3) := by decide +kernel
theorem dX12_book_106 : decode cX12_book 106 = .ok (.aload_n 0, 1) := by decide +kernel
theorem dX12_book_107 : decode cX12_book 107 = .ok (.getfield 47, 3) := by decide +kernel
theorem dX12_book_110 : decode cX12_book 110 = .ok (.bipush 8, 2) := by decide +kernel
theorem dX12_book_112 : decode cX12_book 112 = .ok (.invokestatic 347, 3) := by decide +kernel
theorem dX12_book_115 : decode cX12_book 115 = .ok (.aload_n 0, 1) := by decide +kernel
theorem dX12_book_116 : decode cX12_book 116 = .ok (.getfield 50, 3) := by decide +kernel
theorem dX12_book_119 : decode cX12_book 119 = .ok (.bipush 8, 2) := by decide +kernel
theorem dX12_book_121 : decode cX12_book 121 = .ok (.invokestatic 347, 3) := by decide +kernel
theorem dX12_book_124 : decode cX12_book 124 = .ok (.aload_n 0, 1) := by decide +kernel
theorem dX12_book_125 : decode cX12_book 125 = .ok (.getfield 53, 3) := by decide +kernel
theorem dX12_book_128 : decode cX12_book 128 = .ok (.bipush 8, 2) := by decide +kernel
theorem dX12_book_130 : decode cX12_book 130 = .ok (.invokestatic 347, 3) := by decide +kernel
theorem dX12_book_133 : decode cX12_book 133 = .ok (.aload_n 0, 1) := by decide +kernel
theorem dX12_book_134 : decode cX12_book 134 = .ok (.getfield 56, 3) := by decide +kernel
theorem dX12_book_137 : decode cX12_book 137 = .ok (.bipush 8, 2) := by decide +kernel
theorem dX12_book_139 : decode cX12_book 139 = .ok (.invokestatic 347, 3) := by decide +kernel
theorem dX12_book_142 : decode cX12_book 142 = .ok (.aload_n 0, 1) := by decide +kernel
theorem dX12_book_143 : decode cX12_book 143 = .ok (.getfield 59, 3) := by decide +kernel
theorem dX12_book_146 : decode cX12_book 146 = .ok (.bipush 8, 2) := by decide +kernel
theorem dX12_book_148 : decode cX12_book 148 = .ok (.invokestatic 347, 3) := by decide +kernel
theorem dX12_book_151 : decode cX12_book 151 = .ok (.aload_n 0, 1) := by decide +kernel
theorem dX12_book_152 : decode cX12_book 152 = .ok (.getfield 62, 3) := by decide +kernel
theorem dX12_book_155 : decode cX12_book 155 = .ok (.bipush 8, 2) := by decide +kernel
theorem dX12_book_157 : decode cX12_book 157 = .ok (.invokestatic 347, 3) := by decide +kernel
theorem dX12_book_160 : decode cX12_book 160 = .ok (.aload_n 0, 1) := by decide +kernel
theorem dX12_book_161 : decode cX12_book 161 = .ok (.getfield 65, 3) := by decide +kernel
theorem dX12_book_164 : decode cX12_book 164 = .ok (.iconst 1, 1) := by decide +kernel
theorem dX12_book_165 : decode cX12_book 165 = .ok (.invokestatic 347, 3) := by decide +kernel
theorem dX12_book_168 : decode cX12_book 168 = .ok (.aload_n 0, 1) := by decide +kernel
theorem dX12_book_169 : decode cX12_book 169 = .ok (.getfield 68, 3) := by decide +kernel
theorem dX12_book_172 : decode cX12_book 172 = .ok (.iconst 1, 1) := by decide +kernel
theorem dX12_book_173 : decode cX12_book 173 = .ok (.invokestatic 347, 3) := by decide +kernel
theorem dX12_book_176 : decode cX12_book 176 = .ok (.aload_n 0, 1) := by decide +kernel
theorem dX12_book_177 : decode cX12_book 177 = .ok (.getfield 71, 3) := by decide +kernel
theorem dX12_book_180 : decode cX12_book 180 = .ok (.iconst 1, 1) := by decide +kernel
theorem dX12_book_181 : decode cX12_book 181 = .ok (.invokestatic 347, 3) := by decide +kernel
theorem dX12_book_184 : decode cX12_book 184 = .ok (.aload_n 0, 1) := by decide +kernel
theorem dX12_book_185 : decode cX12_book 185 = .ok (.getfield 74, 3) := by decide +kernel
theorem dX12_book_188 : decode cX12_book 188 = .ok (.iconst 1, 1) := by decide +kernel
theorem dX12_book_189 : decode cX12_book 189 = .ok (.invokestatic 347, 3) := by decide +kernel
theorem dX12_book_192 : decode cX12_book 192 = .ok (.aload_n 0, 1) := by decide +kernel
theorem dX12_book_193 : decode cX12_book 193 = .ok (.getfield 77, 3) := by decide +kernel
theorem dX12_book_196 : decode cX12_book 196 = .ok (.iconst 1, 1) := by decide +kernel
theorem dX12_book_197 : decode cX12_book 197 = .ok (.invokestatic 347, 3) := by decide +kernel
theorem dX12_book_200 : decode cX12_book 200 = .ok (.aload_n 0, 1) := by decide +kernel
theorem dX12_book_201 : decode cX12_book 201 = .ok (.iconst 0, 1) := by decide +kernel
theorem dX12_book_202 : decode cX12_book 202 = .ok (.putfield 351, 3) := by decide +kernel
theorem dX12_book_205 : decode cX12_book 205 = .ok (.aload_n 0, 1) := by decide +kernel
theorem dX12_book_206 : decode cX12_book 206 = .ok (.invokevirtual 354, 3) := by decide +kernel
theorem dX12_book_209 : decode cX12_book 209 = .ok (.invokestatic 357, 3) := by decide +kernel
theorem dX12_book_212 : decode cX12_book 212 = .ok (.ireturn, 1) := by decide +kernel
theorem dX12_rule_0 : decode cX12_rule 0 = .ok (.aload_n 0, 1) := by decide +kernel
theorem dX12_rule_1 : decode cX12_rule 1 = .ok (.getfield 360, 3) := by decide +kernel
theorem dX12_rule_4 : decode cX12_rule 4 = .ok (.bipush 6, 2) := by decide +kernel
theorem dX12_rule_6 : decode cX12_rule 6 = .ok (.if_icmp .ne 5, 3) := by decide +kernel
theorem dX12_rule_9 : decode cX12_rule 9 = .ok (.iconst (-1), 1) := by decide +kernel
theorem dX12_rule_10 : decode cX12_rule 10 = .ok (.ireturn, 1) := by decide +kernel
theorem dX12_rule_11 : decode cX12_rule 11 = .ok (.aload_n 0, 1) := by decide +kernel
theorem dX12_rule_12 : decode cX12_rule 12 = .ok (.iconst 2, 1) := by decide +kernel
theorem dX12_rule_13 : decode cX12_rule 13 = .ok (.aload_n 0, 1) := by decide +kernel
theorem dX12_rule_14 : decode cX12_rule 14 = .ok (.getfield 360, 3) := by decide +kernel
theorem dX12_rule_17 : decode cX12_rule 17 = .ok (.iadd, 1) := by decide +kernel
theorem dX12_rule_18 : decode cX12_rule 18 = .ok (.putfield 153, 3) := by decide +kernel
theorem dX12_rule_21 : decode cX12_rule 21 = .ok (.aload_n 0, 1) := by decide +kernel
theorem dX12_rule_22 : decode cX12_rule 22 = .ok (.invokevirtual 344, 3) := by decide +kernel
theorem dX12_rule_25 : decode cX12_rule 25 = .ok (.istore_n 1, 1) := by decide +kernel
theorem dX12_rule_26 : decode cX12_rule 26 = .ok (.aload_n 0, 1) := by decide +kernel
theorem dX12_rule_27 : decode cX12_rule 27 = .ok (.dup, 1) := by decide +kernel
theorem dX12_rule_28 : decode cX12_rule 28 = .ok (.getfield 360, 3) := by decide +kernel
theorem dX12_rule_31 : decode cX12_rule 31 = .ok (.iload_n 1, 1) := by decide +kernel
theorem dX12_rule_32 : decode cX12_rule 32 = .ok (.ifCond .ne 7, 3) := by decide +kernel
theorem dX12_rule_35 : decode cX12_rule 35 = .ok (.iconst 1, 1) := by decide +kernel
theorem dX12_rule_36 : decode cX12_rule 36 = .ok (.goto 4, 3) := by decide +kernel
theorem dX12_rule_39 : decode cX12_rule 39 = .ok (.iconst 0, 1) := by decide +kernel
theorem dX12_rule_40 : decode cX12_rule 40 = .ok (.iadd, 1) := by decide +kernel
theorem dX12_rule_41 : decode cX12_rule 41 = .ok (.putfield 360, 3) := by decide +kernel
theorem dX12_rule_44 : decode cX12_rule 44 = .ok (.iload_n 1, 1) := by decide +kernel
theorem dX12_rule_45 : decode cX12_rule 45 = .ok (.ifCond .le 10, 3) := by decide +kernel
theorem dX12_rule_48 : decode cX12_rule 48 = .ok (.bipush (-2), 2) := by decide +kernel
theorem dX12_rule_50 : decode cX12_rule 50 = .ok (.iload_n 1, 1) := by decide +kernel
theorem dX12_rule_51 : decode cX12_rule 51 = .ok (.isub, 1) := by decide +kernel
theorem dX12_rule_52 : decode cX12_rule 52 = .ok (.goto 9, 3) := by decide +kernel
theorem dX12_rule_55 : decode cX12_rule 55 = .ok (.aload_n 0, 1) := by decide +kernel
theorem dX12_rule_56 : decode cX12_rule 56 = .ok (.getfield 360, 3) := by decide +kernel
theorem dX12_rule_59 : decode cX12_rule 59 = .ok (.iconst 1, 1) := by decide +kernel
theorem dX12_rule_60 : decode cX12_rule 60 = .ok (.isub, 1) := by decide +kernel
theorem dX12_rule_61 : decode cX12_rule 61 = .ok (.ireturn, 1) := by decide +kernel
theorem dX12_truth_0 : decode cX12_truth 0 = .ok (.iload_n 0, 1) := by decide +kernel
theorem dX12_truth_1 : decode cX12_truth 1 = .ok (.ifCond .eq 7, 3) := by decide +kernel
theorem dX12_truth_4 : decode cX12_truth 4 = .ok (.lconst 1, 1) := by decide +kernel
theorem dX12_truth_5 : decode cX12_truth 5 = .ok (.goto 4, 3) := by decide +kernel
theorem dX12_truth_8 : decode cX12_truth 8 = .ok (.lconst 0, 1) := by decide +kernel
theorem dX12_truth_9 : decode cX12_truth 9 = .ok (.lreturn, 1) := by decide +kernel
theorem dX12_both_0 : decode cX12_both 0 = .ok (.iload_n 0, 1) := by decide +kernel
set_option maxRecDepth 20000 in
theorem dX12_both_1 : decode cX12_both 1 = .ok (.tableswitch 172 2 14 #[67, 71, 93, 108, 123, 138, 153, 172, 168, 172, 172, 75, 79], 67) := by decide +kernel
theorem dX12_both_68 : decode cX12_both 68 = .ok (.lload_n 1, 1) := by decide +kernel
theorem dX12_both_69 : decode cX12_both 69 = .ok (.lload_n 3, 1) := by decide +kernel
theorem dX12_both_70 : decode cX12_both 70 = .ok (.ladd, 1) := by decide +kernel
theorem dX12_both_71 : decode cX12_both 71 = .ok (.lreturn, 1) := by decide +kernel
theorem dX12_both_72 : decode cX12_both 72 = .ok (.lload_n 1, 1) := by decide +kernel
theorem dX12_both_73 : decode cX12_both 73 = .ok (.lload_n 3, 1) := by decide +kernel
theorem dX12_both_74 : decode cX12_both 74 = .ok (.lsub, 1) := by decide +kernel
theorem dX12_both_75 : decode cX12_both 75 = .ok (.lreturn, 1) := by decide +kernel
theorem dX12_both_76 : decode cX12_both 76 = .ok (.lload_n 1, 1) := by decide +kernel
theorem dX12_both_77 : decode cX12_both 77 = .ok (.lload_n 3, 1) := by decide +kernel
theorem dX12_both_78 : decode cX12_both 78 = .ok (.lmul, 1) := by decide +kernel
theorem dX12_both_79 : decode cX12_both 79 = .ok (.lreturn, 1) := by decide +kernel
theorem dX12_both_80 : decode cX12_both 80 = .ok (.lload_n 3, 1) := by decide +kernel
theorem dX12_both_81 : decode cX12_both 81 = .ok (.lconst 0, 1) := by decide +kernel
theorem dX12_both_82 : decode cX12_both 82 = .ok (.lcmp, 1) := by decide +kernel
theorem dX12_both_83 : decode cX12_both 83 = .ok (.ifCond .ne 7, 3) := by decide +kernel
theorem dX12_both_86 : decode cX12_both 86 = .ok (.lconst 0, 1) := by decide +kernel
theorem dX12_both_87 : decode cX12_both 87 = .ok (.goto 6, 3) := by decide +kernel
theorem dX12_both_90 : decode cX12_both 90 = .ok (.lload_n 1, 1) := by decide +kernel
theorem dX12_both_91 : decode cX12_both 91 = .ok (.lload_n 3, 1) := by decide +kernel
theorem dX12_both_92 : decode cX12_both 92 = .ok (.ldiv, 1) := by decide +kernel
theorem dX12_both_93 : decode cX12_both 93 = .ok (.lreturn, 1) := by decide +kernel
theorem dX12_both_94 : decode cX12_both 94 = .ok (.lload_n 1, 1) := by decide +kernel
theorem dX12_both_95 : decode cX12_both 95 = .ok (.lload_n 3, 1) := by decide +kernel
theorem dX12_both_96 : decode cX12_both 96 = .ok (.lcmp, 1) := by decide +kernel
theorem dX12_both_97 : decode cX12_both 97 = .ok (.ifCond .ge 7, 3) := by decide +kernel
theorem dX12_both_100 : decode cX12_both 100 = .ok (.iconst 1, 1) := by decide +kernel
theorem dX12_both_101 : decode cX12_both 101 = .ok (.goto 4, 3) := by decide +kernel
theorem dX12_both_104 : decode cX12_both 104 = .ok (.iconst 0, 1) := by decide +kernel
theorem dX12_both_105 : decode cX12_both 105 = .ok (.invokestatic 363, 3) := by decide +kernel
theorem dX12_both_108 : decode cX12_both 108 = .ok (.lreturn, 1) := by decide +kernel
theorem dX12_both_109 : decode cX12_both 109 = .ok (.lload_n 1, 1) := by decide +kernel
theorem dX12_both_110 : decode cX12_both 110 = .ok (.lload_n 3, 1) := by decide +kernel
theorem dX12_both_111 : decode cX12_both 111 = .ok (.lcmp, 1) := by decide +kernel
theorem dX12_both_112 : decode cX12_both 112 = .ok (.ifCond .gt 7, 3) := by decide +kernel
theorem dX12_both_115 : decode cX12_both 115 = .ok (.iconst 1, 1) := by decide +kernel
theorem dX12_both_116 : decode cX12_both 116 = .ok (.goto 4, 3) := by decide +kernel
theorem dX12_both_119 : decode cX12_both 119 = .ok (.iconst 0, 1) := by decide +kernel
theorem dX12_both_120 : decode cX12_both 120 = .ok (.invokestatic 363, 3) := by decide +kernel
theorem dX12_both_123 : decode cX12_both 123 = .ok (.lreturn, 1) := by decide +kernel
theorem dX12_both_124 : decode cX12_both 124 = .ok (.lload_n 1, 1) := by decide +kernel
theorem dX12_both_125 : decode cX12_both 125 = .ok (.lload_n 3, 1) := by decide +kernel
theorem dX12_both_126 : decode cX12_both 126 = .ok (.lcmp, 1) := by decide +kernel
theorem dX12_both_127 : decode cX12_both 127 = .ok (.ifCond .ne 7, 3) := by decide +kernel
theorem dX12_both_130 : decode cX12_both 130 = .ok (.iconst 1, 1) := by decide +kernel
theorem dX12_both_131 : decode cX12_both 131 = .ok (.goto 4, 3) := by decide +kernel
theorem dX12_both_134 : decode cX12_both 134 = .ok (.iconst 0, 1) := by decide +kernel
theorem dX12_both_135 : decode cX12_both 135 = .ok (.invokestatic 363, 3) := by decide +kernel
theorem dX12_both_138 : decode cX12_both 138 = .ok (.lreturn, 1) := by decide +kernel
theorem dX12_both_139 : decode cX12_both 139 = .ok (.lload_n 1, 1) := by decide +kernel
theorem dX12_both_140 : decode cX12_both 140 = .ok (.lload_n 3, 1) := by decide +kernel
theorem dX12_both_141 : decode cX12_both 141 = .ok (.lcmp, 1) := by decide +kernel
theorem dX12_both_142 : decode cX12_both 142 = .ok (.ifCond .lt 7, 3) := by decide +kernel
theorem dX12_both_145 : decode cX12_both 145 = .ok (.iconst 1, 1) := by decide +kernel
theorem dX12_both_146 : decode cX12_both 146 = .ok (.goto 4, 3) := by decide +kernel
theorem dX12_both_149 : decode cX12_both 149 = .ok (.iconst 0, 1) := by decide +kernel
theorem dX12_both_150 : decode cX12_both 150 = .ok (.invokestatic 363, 3) := by decide +kernel
theorem dX12_both_153 : decode cX12_both 153 = .ok (.lreturn, 1) := by decide +kernel
theorem dX12_both_154 : decode cX12_both 154 = .ok (.lload_n 1, 1) := by decide +kernel
theorem dX12_both_155 : decode cX12_both 155 = .ok (.lload_n 3, 1) := by decide +kernel
theorem dX12_both_156 : decode cX12_both 156 = .ok (.lcmp, 1) := by decide +kernel
theorem dX12_both_157 : decode cX12_both 157 = .ok (.ifCond .le 7, 3) := by decide +kernel
theorem dX12_both_160 : decode cX12_both 160 = .ok (.iconst 1, 1) := by decide +kernel
theorem dX12_both_161 : decode cX12_both 161 = .ok (.goto 4, 3) := by decide +kernel
theorem dX12_both_164 : decode cX12_both 164 = .ok (.iconst 0, 1) := by decide +kernel
theorem dX12_both_165 : decode cX12_both 165 = .ok (.invokestatic 363, 3) := by decide +kernel
theorem dX12_both_168 : decode cX12_both 168 = .ok (.lreturn, 1) := by decide +kernel
theorem dX12_both_169 : decode cX12_both 169 = .ok (.lload_n 1, 1) := by decide +kernel
theorem dX12_both_170 : decode cX12_both 170 = .ok (.lload_n 3, 1) := by decide +kernel
theorem dX12_both_171 : decode cX12_both 171 = .ok (.land, 1) := by decide +kernel
theorem dX12_both_172 : decode cX12_both 172 = .ok (.lreturn, 1) := by decide +kernel
theorem dX12_both_173 : decode cX12_both 173 = .ok (.lload_n 1, 1) := by decide +kernel
theorem dX12_both_174 : decode cX12_both 174 = .ok (.lload_n 3, 1) := by decide +kernel
theorem dX12_both_175 : decode cX12_both 175 = .ok (.lor, 1) := by decide +kernel
theorem dX12_both_176 : decode cX12_both 176 = .ok (.lreturn, 1) := by decide +kernel
theorem dX12_answer_0 : decode cX12_answer 0 = .ok (.iconst 0, 1) := by decide +kernel
theorem dX12_answer_1 : decode cX12_answer 1 = .ok (.istore 4, 2) := by decide +kernel
theorem dX12_answer_3 : decode cX12_answer 3 = .ok (.iload_n 2, 1) := by decide +kernel
theorem dX12_answer_4 : decode cX12_answer 4 = .ok (.istore 5, 2) := by decide +kernel
theorem dX12_answer_6 : decode cX12_answer 6 = .ok (.iload 5, 2) := by decide +kernel
theorem dX12_answer_8 : decode cX12_answer 8 = .ok (.iload_n 3, 1) := by decide +kernel
theorem dX12_answer_9 : decode cX12_answer 9 = .ok (.if_icmp .ge 144, 3) := by decide +kernel
theorem dX12_answer_12 : decode cX12_answer 12 = .ok (.aload_n 0, 1) := by decide +kernel
theorem dX12_answer_13 : decode cX12_answer 13 = .ok (.getfield 13, 3) := by decide +kernel
theorem dX12_answer_16 : decode cX12_answer 16 = .ok (.sipush 300, 3) := by decide +kernel
theorem dX12_answer_19 : decode cX12_answer 19 = .ok (.iload_n 1, 1) := by decide +kernel
theorem dX12_answer_20 : decode cX12_answer 20 = .ok (.imul, 1) := by decide +kernel
theorem dX12_answer_21 : decode cX12_answer 21 = .ok (.iload 5, 2) := by decide +kernel
theorem dX12_answer_23 : decode cX12_answer 23 = .ok (.iadd, 1) := by decide +kernel
theorem dX12_answer_24 : decode cX12_answer 24 = .ok (.iaload, 1) := by decide +kernel
theorem dX12_answer_25 : decode cX12_answer 25 = .ok (.istore 6, 2) := by decide +kernel
theorem dX12_answer_27 : decode cX12_answer 27 = .ok (.aload_n 0, 1) := by decide +kernel
theorem dX12_answer_28 : decode cX12_answer 28 = .ok (.getfield 17, 3) := by decide +kernel
theorem dX12_answer_31 : decode cX12_answer 31 = .ok (.sipush 300, 3) := by decide +kernel
theorem dX12_answer_34 : decode cX12_answer 34 = .ok (.iload_n 1, 1) := by decide +kernel
theorem dX12_answer_35 : decode cX12_answer 35 = .ok (.imul, 1) := by decide +kernel
theorem dX12_answer_36 : decode cX12_answer 36 = .ok (.iload 5, 2) := by decide +kernel
theorem dX12_answer_38 : decode cX12_answer 38 = .ok (.iadd, 1) := by decide +kernel
theorem dX12_answer_39 : decode cX12_answer 39 = .ok (.iaload, 1) := by decide +kernel
theorem dX12_answer_40 : decode cX12_answer 40 = .ok (.istore 7, 2) := by decide +kernel
theorem dX12_answer_42 : decode cX12_answer 42 = .ok (.iload 6, 2) := by decide +kernel
theorem dX12_answer_44 : decode cX12_answer 44 = .ok (.ifCond .eq 9, 3) := by decide +kernel
theorem dX12_answer_47 : decode cX12_answer 47 = .ok (.iload 6, 2) := by decide +kernel
theorem dX12_answer_49 : decode cX12_answer 49 = .ok (.iconst 1, 1) := by decide +kernel
theorem dX12_answer_50 : decode cX12_answer 50 = .ok (.if_icmp .ne 34, 3) := by decide +kernel
theorem dX12_answer_53 : decode cX12_answer 53 = .ok (.aload_n 0, 1) := by decide +kernel
theorem dX12_answer_54 : decode cX12_answer 54 = .ok (.getfield 84, 3) := by decide +kernel
theorem dX12_answer_57 : decode cX12_answer 57 = .ok (.iload 4, 2) := by decide +kernel
theorem dX12_answer_59 : decode cX12_answer 59 = .ok (.iload 6, 2) := by decide +kernel
theorem dX12_answer_61 : decode cX12_answer 61 = .ok (.ifCond .ne 9, 3) := by decide +kernel
theorem dX12_answer_64 : decode cX12_answer 64 = .ok (.iload 7, 2) := by decide +kernel
theorem dX12_answer_66 : decode cX12_answer 66 = .ok (.i2l, 1) := by decide +kernel
theorem dX12_answer_67 : decode cX12_answer 67 = .ok (.goto 10, 3) := by decide +kernel
theorem dX12_answer_70 : decode cX12_answer 70 = .ok (.aload_n 0, 1) := by decide +kernel
theorem dX12_answer_71 : decode cX12_answer 71 = .ok (.getfield 80, 3) := by decide +kernel
theorem dX12_answer_74 : decode cX12_answer 74 = .ok (.iload 7, 2) := by decide +kernel
theorem dX12_answer_76 : decode cX12_answer 76 = .ok (.laload, 1) := by decide +kernel
theorem dX12_answer_77 : decode cX12_answer 77 = .ok (.lastore, 1) := by decide +kernel
theorem dX12_answer_78 : decode cX12_answer 78 = .ok (.iinc 4 1, 3) := by decide +kernel
theorem dX12_answer_81 : decode cX12_answer 81 = .ok (.goto 66, 3) := by decide +kernel
theorem dX12_answer_84 : decode cX12_answer 84 = .ok (.iload 6, 2) := by decide +kernel
theorem dX12_answer_86 : decode cX12_answer 86 = .ok (.bipush 9, 2) := by decide +kernel
theorem dX12_answer_88 : decode cX12_answer 88 = .ok (.if_icmp .ne 26, 3) := by decide +kernel
theorem dX12_answer_91 : decode cX12_answer 91 = .ok (.aload_n 0, 1) := by decide +kernel
theorem dX12_answer_92 : decode cX12_answer 92 = .ok (.getfield 84, 3) := by decide +kernel
theorem dX12_answer_95 : decode cX12_answer 95 = .ok (.iload 4, 2) := by decide +kernel
theorem dX12_answer_97 : decode cX12_answer 97 = .ok (.iconst 1, 1) := by decide +kernel
theorem dX12_answer_98 : decode cX12_answer 98 = .ok (.isub, 1) := by decide +kernel
theorem dX12_answer_99 : decode cX12_answer 99 = .ok (.lconst 1, 1) := by decide +kernel
theorem dX12_answer_100 : decode cX12_answer 100 = .ok (.aload_n 0, 1) := by decide +kernel
theorem dX12_answer_101 : decode cX12_answer 101 = .ok (.getfield 84, 3) := by decide +kernel
theorem dX12_answer_104 : decode cX12_answer 104 = .ok (.iload 4, 2) := by decide +kernel
theorem dX12_answer_106 : decode cX12_answer 106 = .ok (.iconst 1, 1) := by decide +kernel
theorem dX12_answer_107 : decode cX12_answer 107 = .ok (.isub, 1) := by decide +kernel
theorem dX12_answer_108 : decode cX12_answer 108 = .ok (.laload, 1) := by decide +kernel
theorem dX12_answer_109 : decode cX12_answer 109 = .ok (.lsub, 1) := by decide +kernel
theorem dX12_answer_110 : decode cX12_answer 110 = .ok (.lastore, 1) := by decide +kernel
theorem dX12_answer_111 : decode cX12_answer 111 = .ok (.goto 36, 3) := by decide +kernel
theorem dX12_answer_114 : decode cX12_answer 114 = .ok (.iinc 4 (-1), 3) := by decide +kernel
theorem dX12_answer_117 : decode cX12_answer 117 = .ok (.aload_n 0, 1) := by decide +kernel
theorem dX12_answer_118 : decode cX12_answer 118 = .ok (.getfield 84, 3) := by decide +kernel
theorem dX12_answer_121 : decode cX12_answer 121 = .ok (.iload 4, 2) := by decide +kernel
theorem dX12_answer_123 : decode cX12_answer 123 = .ok (.iconst 1, 1) := by decide +kernel
theorem dX12_answer_124 : decode cX12_answer 124 = .ok (.isub, 1) := by decide +kernel
theorem dX12_answer_125 : decode cX12_answer 125 = .ok (.iload 6, 2) := by decide +kernel
theorem dX12_answer_127 : decode cX12_answer 127 = .ok (.aload_n 0, 1) := by decide +kernel
theorem dX12_answer_128 : decode cX12_answer 128 = .ok (.getfield 84, 3) := by decide +kernel
theorem dX12_answer_131 : decode cX12_answer 131 = .ok (.iload 4, 2) := by decide +kernel
theorem dX12_answer_133 : decode cX12_answer 133 = .ok (.iconst 1, 1) := by decide +kernel
theorem dX12_answer_134 : decode cX12_answer 134 = .ok (.isub, 1) := by decide +kernel
theorem dX12_answer_135 : decode cX12_answer 135 = .ok (.laload, 1) := by decide +kernel
theorem dX12_answer_136 : decode cX12_answer 136 = .ok (.aload_n 0, 1) := by decide +kernel
theorem dX12_answer_137 : decode cX12_answer 137 = .ok (.getfield 84, 3) := by decide +kernel
theorem dX12_answer_140 : decode cX12_answer 140 = .ok (.iload 4, 2) := by decide +kernel
theorem dX12_answer_142 : decode cX12_answer 142 = .ok (.laload, 1) := by decide +kernel
theorem dX12_answer_143 : decode cX12_answer 143 = .ok (.invokestatic 367, 3) := by decide +kernel
theorem dX12_answer_146 : decode cX12_answer 146 = .ok (.lastore, 1) := by decide +kernel
theorem dX12_answer_147 : decode cX12_answer 147 = .ok (.iinc 5 1, 3) := by decide +kernel
theorem dX12_answer_150 : decode cX12_answer 150 = .ok (.goto (-144), 3) := by decide +kernel
theorem dX12_answer_153 : decode cX12_answer 153 = .ok (.aload_n 0, 1) := by decide +kernel
theorem dX12_answer_154 : decode cX12_answer 154 = .ok (.getfield 84, 3) := by decide +kernel
theorem dX12_answer_157 : decode cX12_answer 157 = .ok (.iconst 0, 1) := by decide +kernel
theorem dX12_answer_158 : decode cX12_answer 158 = .ok (.laload, 1) := by decide +kernel
theorem dX12_answer_159 : decode cX12_answer 159 = .ok (.lreturn, 1) := by decide +kernel
theorem dX12_all_0 : decode cX12_all 0 = .ok (.iconst 0, 1) := by decide +kernel
theorem dX12_all_1 : decode cX12_all 1 = .ok (.istore_n 1, 1) := by decide +kernel
theorem dX12_all_2 : decode cX12_all 2 = .ok (.iconst 0, 1) := by decide +kernel
theorem dX12_all_3 : decode cX12_all 3 = .ok (.istore_n 2, 1) := by decide +kernel
theorem dX12_all_4 : decode cX12_all 4 = .ok (.iload_n 2, 1) := by decide +kernel
theorem dX12_all_5 : decode cX12_all 5 = .ok (.bipush 8, 2) := by decide +kernel
theorem dX12_all_7 : decode cX12_all 7 = .ok (.if_icmp .ge 20, 3) := by decide +kernel
theorem dX12_all_10 : decode cX12_all 10 = .ok (.iload_n 1, 1) := by decide +kernel
theorem dX12_all_11 : decode cX12_all 11 = .ok (.aload_n 0, 1) := by decide +kernel
theorem dX12_all_12 : decode cX12_all 12 = .ok (.getfield 44, 3) := by decide +kernel
theorem dX12_all_15 : decode cX12_all 15 = .ok (.iload_n 2, 1) := by decide +kernel
theorem dX12_all_16 : decode cX12_all 16 = .ok (.iaload, 1) := by decide +kernel
theorem dX12_all_17 : decode cX12_all 17 = .ok (.iload_n 2, 1) := by decide +kernel
theorem dX12_all_18 : decode cX12_all 18 = .ok (.ishl, 1) := by decide +kernel
theorem dX12_all_19 : decode cX12_all 19 = .ok (.ior, 1) := by decide +kernel
theorem dX12_all_20 : decode cX12_all 20 = .ok (.istore_n 1, 1) := by decide +kernel
theorem dX12_all_21 : decode cX12_all 21 = .ok (.iinc 2 1, 3) := by decide +kernel
theorem dX12_all_24 : decode cX12_all 24 = .ok (.goto (-20), 3) := by decide +kernel
theorem dX12_all_27 : decode cX12_all 27 = .ok (.iload_n 1, 1) := by decide +kernel
theorem dX12_all_28 : decode cX12_all 28 = .ok (.ireturn, 1) := by decide +kernel
theorem dX12_has_0 : decode cX12_has 0 = .ok (.iload_n 1, 1) := by decide +kernel
theorem dX12_has_1 : decode cX12_has 1 = .ok (.i2l, 1) := by decide +kernel
theorem dX12_has_2 : decode cX12_has 2 = .ok (.lconst 0, 1) := by decide +kernel
theorem dX12_has_3 : decode cX12_has 3 = .ok (.ldc2_w 371, 3) := by decide +kernel
theorem dX12_has_6 : decode cX12_has 6 = .ok (.invokestatic 201, 3) := by decide +kernel
theorem dX12_has_9 : decode cX12_has 9 = .ok (.ifCond .eq 17, 3) := by decide +kernel
theorem dX12_has_12 : decode cX12_has 12 = .ok (.aload_n 0, 1) := by decide +kernel
theorem dX12_has_13 : decode cX12_has 13 = .ok (.getfield 44, 3) := by decide +kernel
theorem dX12_has_16 : decode cX12_has 16 = .ok (.iload_n 1, 1) := by decide +kernel
theorem dX12_has_17 : decode cX12_has 17 = .ok (.iaload, 1) := by decide +kernel
theorem dX12_has_18 : decode cX12_has 18 = .ok (.iconst 1, 1) := by decide +kernel
theorem dX12_has_19 : decode cX12_has 19 = .ok (.if_icmp .ne 7, 3) := by decide +kernel
theorem dX12_has_22 : decode cX12_has 22 = .ok (.iconst 1, 1) := by decide +kernel
theorem dX12_has_23 : decode cX12_has 23 = .ok (.goto 4, 3) := by decide +kernel
theorem dX12_has_26 : decode cX12_has 26 = .ok (.iconst 0, 1) := by decide +kernel
theorem dX12_has_27 : decode cX12_has 27 = .ok (.ireturn, 1) := by decide +kernel
theorem dX12_isWeek_0 : decode cX12_isWeek 0 = .ok (.iload_n 0, 1) := by decide +kernel
theorem dX12_isWeek_1 : decode cX12_isWeek 1 = .ok (.i2l, 1) := by decide +kernel
theorem dX12_isWeek_2 : decode cX12_isWeek 2 = .ok (.lconst 0, 1) := by decide +kernel
theorem dX12_isWeek_3 : decode cX12_isWeek 3 = .ok (.ldc2_w 373, 3) := by decide +kernel
theorem dX12_isWeek_6 : decode cX12_isWeek 6 = .ok (.invokestatic 201, 3) := by decide +kernel
theorem dX12_isWeek_9 : decode cX12_isWeek 9 = .ok (.ireturn, 1) := by decide +kernel
theorem dX12_isOfBook_0 : decode cX12_isOfBook 0 = .ok (.iload_n 1, 1) := by decide +kernel
theorem dX12_isOfBook_1 : decode cX12_isOfBook 1 = .ok (.i2l, 1) := by decide +kernel
theorem dX12_isOfBook_2 : decode cX12_isOfBook 2 = .ok (.lconst 0, 1) := by decide +kernel
theorem dX12_isOfBook_3 : decode cX12_isOfBook 3 = .ok (.aload_n 0, 1) := by decide +kernel
theorem dX12_isOfBook_4 : decode cX12_isOfBook 4 = .ok (.getfield 77, 3) := by decide +kernel
theorem dX12_isOfBook_7 : decode cX12_isOfBook 7 = .ok (.iconst 0, 1) := by decide +kernel
theorem dX12_isOfBook_8 : decode cX12_isOfBook 8 = .ok (.iaload, 1) := by decide +kernel
theorem dX12_isOfBook_9 : decode cX12_isOfBook 9 = .ok (.iconst 1, 1) := by decide +kernel
theorem dX12_isOfBook_10 : decode cX12_isOfBook 10 = .ok (.isub, 1) := by decide +kernel
theorem dX12_isOfBook_11 : decode cX12_isOfBook 11 = .ok (.i2l, 1) := by decide +kernel
theorem dX12_isOfBook_12 : decode cX12_isOfBook 12 = .ok (.invokestatic 201, 3) := by decide +kernel
theorem dX12_isOfBook_15 : decode cX12_isOfBook 15 = .ok (.ireturn, 1) := by decide +kernel
theorem dX12_thing_0 : decode cX12_thing 0 = .ok (.aload_n 0, 1) := by decide +kernel
theorem dX12_thing_1 : decode cX12_thing 1 = .ok (.iload_n 1, 1) := by decide +kernel
theorem dX12_thing_2 : decode cX12_thing 2 = .ok (.invokevirtual 375, 3) := by decide +kernel
theorem dX12_thing_5 : decode cX12_thing 5 = .ok (.ifCond .ne 6, 3) := by decide +kernel
theorem dX12_thing_8 : decode cX12_thing 8 = .ok (.bipush (-2), 2) := by decide +kernel
theorem dX12_thing_10 : decode cX12_thing 10 = .ok (.ireturn, 1) := by decide +kernel
theorem dX12_thing_11 : decode cX12_thing 11 = .ok (.iload_n 2, 1) := by decide +kernel
set_option maxRecDepth 20000 in
theorem dX12_thing_12 : decode cX12_thing 12 = .ok (.tableswitch 82 0 5 #[40, 47, 54, 61, 68, 75], 40) := by decide +kernel
theorem dX12_thing_52 : decode cX12_thing 52 = .ok (.aload_n 0, 1) := by decide +kernel
theorem dX12_thing_53 : decode cX12_thing 53 = .ok (.getfield 47, 3) := by decide +kernel
theorem dX12_thing_56 : decode cX12_thing 56 = .ok (.iload_n 1, 1) := by decide +kernel
theorem dX12_thing_57 : decode cX12_thing 57 = .ok (.iaload, 1) := by decide +kernel
theorem dX12_thing_58 : decode cX12_thing 58 = .ok (.ireturn, 1) := by decide +kernel
theorem dX12_thing_59 : decode cX12_thing 59 = .ok (.aload_n 0, 1) := by decide +kernel
theorem dX12_thing_60 : decode cX12_thing 60 = .ok (.getfield 50, 3) := by decide +kernel
theorem dX12_thing_63 : decode cX12_thing 63 = .ok (.iload_n 1, 1) := by decide +kernel
theorem dX12_thing_64 : decode cX12_thing 64 = .ok (.iaload, 1) := by decide +kernel
theorem dX12_thing_65 : decode cX12_thing 65 = .ok (.ireturn, 1) := by decide +kernel
theorem dX12_thing_66 : decode cX12_thing 66 = .ok (.aload_n 0, 1) := by decide +kernel
theorem dX12_thing_67 : decode cX12_thing 67 = .ok (.getfield 53, 3) := by decide +kernel
theorem dX12_thing_70 : decode cX12_thing 70 = .ok (.iload_n 1, 1) := by decide +kernel
theorem dX12_thing_71 : decode cX12_thing 71 = .ok (.iaload, 1) := by decide +kernel
theorem dX12_thing_72 : decode cX12_thing 72 = .ok (.ireturn, 1) := by decide +kernel
theorem dX12_thing_73 : decode cX12_thing 73 = .ok (.aload_n 0, 1) := by decide +kernel
theorem dX12_thing_74 : decode cX12_thing 74 = .ok (.getfield 56, 3) := by decide +kernel
theorem dX12_thing_77 : decode cX12_thing 77 = .ok (.iload_n 1, 1) := by decide +kernel
theorem dX12_thing_78 : decode cX12_thing 78 = .ok (.iaload, 1) := by decide +kernel
theorem dX12_thing_79 : decode cX12_thing 79 = .ok (.ireturn, 1) := by decide +kernel
theorem dX12_thing_80 : decode cX12_thing 80 = .ok (.aload_n 0, 1) := by decide +kernel
theorem dX12_thing_81 : decode cX12_thing 81 = .ok (.getfield 59, 3) := by decide +kernel
theorem dX12_thing_84 : decode cX12_thing 84 = .ok (.iload_n 1, 1) := by decide +kernel
theorem dX12_thing_85 : decode cX12_thing 85 = .ok (.iaload, 1) := by decide +kernel
theorem dX12_thing_86 : decode cX12_thing 86 = .ok (.ireturn, 1) := by decide +kernel
theorem dX12_thing_87 : decode cX12_thing 87 = .ok (.aload_n 0, 1) := by decide +kernel
theorem dX12_thing_88 : decode cX12_thing 88 = .ok (.getfield 62, 3) := by decide +kernel
theorem dX12_thing_91 : decode cX12_thing 91 = .ok (.iload_n 1, 1) := by decide +kernel
theorem dX12_thing_92 : decode cX12_thing 92 = .ok (.iaload, 1) := by decide +kernel
theorem dX12_thing_93 : decode cX12_thing 93 = .ok (.ireturn, 1) := by decide +kernel
theorem dX12_thing_94 : decode cX12_thing 94 = .ok (.bipush (-2), 2) := by decide +kernel
theorem dX12_thing_96 : decode cX12_thing 96 = .ok (.ireturn, 1) := by decide +kernel
theorem dX12_clausesOf_0 : decode cX12_clausesOf 0 = .ok (.iconst 0, 1) := by decide +kernel
theorem dX12_clausesOf_1 : decode cX12_clausesOf 1 = .ok (.istore_n 2, 1) := by decide +kernel
theorem dX12_clausesOf_2 : decode cX12_clausesOf 2 = .ok (.iconst 0, 1) := by decide +kernel
theorem dX12_clausesOf_3 : decode cX12_clausesOf 3 = .ok (.istore_n 3, 1) := by decide +kernel
theorem dX12_clausesOf_4 : decode cX12_clausesOf 4 = .ok (.iload_n 3, 1) := by decide +kernel
theorem dX12_clausesOf_5 : decode cX12_clausesOf 5 = .ok (.aload_n 0, 1) := by decide +kernel
theorem dX12_clausesOf_6 : decode cX12_clausesOf 6 = .ok (.getfield 20, 3) := by decide +kernel
theorem dX12_clausesOf_9 : decode cX12_clausesOf 9 = .ok (.iconst 0, 1) := by decide +kernel
theorem dX12_clausesOf_10 : decode cX12_clausesOf 10 = .ok (.iaload, 1) := by decide +kernel
theorem dX12_clausesOf_11 : decode cX12_clausesOf 11 = .ok (.if_icmp .ge 27, 3) := by decide +kernel
theorem dX12_clausesOf_14 : decode cX12_clausesOf 14 = .ok (.iload_n 2, 1) := by decide +kernel
theorem dX12_clausesOf_15 : decode cX12_clausesOf 15 = .ok (.aload_n 0, 1) := by decide +kernel
theorem dX12_clausesOf_16 : decode cX12_clausesOf 16 = .ok (.getfield 23, 3) := by decide +kernel
theorem dX12_clausesOf_19 : decode cX12_clausesOf 19 = .ok (.iload_n 3, 1) := by decide +kernel
theorem dX12_clausesOf_20 : decode cX12_clausesOf 20 = .ok (.iaload, 1) := by decide +kernel
theorem dX12_clausesOf_21 : decode cX12_clausesOf 21 = .ok (.iload_n 1, 1) := by decide +kernel
theorem dX12_clausesOf_22 : decode cX12_clausesOf 22 = .ok (.if_icmp .ne 7, 3) := by decide +kernel
theorem dX12_clausesOf_25 : decode cX12_clausesOf 25 = .ok (.iconst 1, 1) := by decide +kernel
theorem dX12_clausesOf_26 : decode cX12_clausesOf 26 = .ok (.goto 4, 3) := by decide +kernel
theorem dX12_clausesOf_29 : decode cX12_clausesOf 29 = .ok (.iconst 0, 1) := by decide +kernel
theorem dX12_clausesOf_30 : decode cX12_clausesOf 30 = .ok (.iadd, 1) := by decide +kernel
theorem dX12_clausesOf_31 : decode cX12_clausesOf 31 = .ok (.istore_n 2, 1) := by decide +kernel
theorem dX12_clausesOf_32 : decode cX12_clausesOf 32 = .ok (.iinc 3 1, 3) := by decide +kernel
theorem dX12_clausesOf_35 : decode cX12_clausesOf 35 = .ok (.goto (-31), 3) := by decide +kernel
theorem dX12_clausesOf_38 : decode cX12_clausesOf 38 = .ok (.iload_n 2, 1) := by decide +kernel
theorem dX12_clausesOf_39 : decode cX12_clausesOf 39 = .ok (.ireturn, 1) := by decide +kernel
theorem dX12_count_0 : decode cX12_count 0 = .ok (.iload_n 1, 1) := by decide +kernel
set_option maxRecDepth 20000 in
theorem dX12_count_1 : decode cX12_count 1 = .ok (.tableswitch 126 0 10 #[59, 64, 71, 78, 85, 92, 99, 105, 111, 116, 121], 59) := by decide +kernel
theorem dX12_count_60 : decode cX12_count 60 = .ok (.aload_n 0, 1) := by decide +kernel
theorem dX12_count_61 : decode cX12_count 61 = .ok (.invokevirtual 354, 3) := by decide +kernel
theorem dX12_count_64 : decode cX12_count 64 = .ok (.ireturn, 1) := by decide +kernel
theorem dX12_count_65 : decode cX12_count 65 = .ok (.aload_n 0, 1) := by decide +kernel
theorem dX12_count_66 : decode cX12_count 66 = .ok (.getfield 77, 3) := by decide +kernel
theorem dX12_count_69 : decode cX12_count 69 = .ok (.iconst 0, 1) := by decide +kernel
theorem dX12_count_70 : decode cX12_count 70 = .ok (.iaload, 1) := by decide +kernel
theorem dX12_count_71 : decode cX12_count 71 = .ok (.ireturn, 1) := by decide +kernel
theorem dX12_count_72 : decode cX12_count 72 = .ok (.aload_n 0, 1) := by decide +kernel
theorem dX12_count_73 : decode cX12_count 73 = .ok (.getfield 74, 3) := by decide +kernel
theorem dX12_count_76 : decode cX12_count 76 = .ok (.iconst 0, 1) := by decide +kernel
theorem dX12_count_77 : decode cX12_count 77 = .ok (.iaload, 1) := by decide +kernel
theorem dX12_count_78 : decode cX12_count 78 = .ok (.ireturn, 1) := by decide +kernel
theorem dX12_count_79 : decode cX12_count 79 = .ok (.aload_n 0, 1) := by decide +kernel
theorem dX12_count_80 : decode cX12_count 80 = .ok (.getfield 65, 3) := by decide +kernel
theorem dX12_count_83 : decode cX12_count 83 = .ok (.iconst 0, 1) := by decide +kernel
theorem dX12_count_84 : decode cX12_count 84 = .ok (.iaload, 1) := by decide +kernel
theorem dX12_count_85 : decode cX12_count 85 = .ok (.ireturn, 1) := by decide +kernel
theorem dX12_count_86 : decode cX12_count 86 = .ok (.aload_n 0, 1) := by decide +kernel
theorem dX12_count_87 : decode cX12_count 87 = .ok (.getfield 68, 3) := by decide +kernel
theorem dX12_count_90 : decode cX12_count 90 = .ok (.iconst 0, 1) := by decide +kernel
theorem dX12_count_91 : decode cX12_count 91 = .ok (.iaload, 1) := by decide +kernel
theorem dX12_count_92 : decode cX12_count 92 = .ok (.ireturn, 1) := by decide +kernel
theorem dX12_count_93 : decode cX12_count 93 = .ok (.aload_n 0, 1) := by decide +kernel
theorem dX12_count_94 : decode cX12_count 94 = .ok (.getfield 71, 3) := by decide +kernel
theorem dX12_count_97 : decode cX12_count 97 = .ok (.iconst 0, 1) := by decide +kernel
theorem dX12_count_98 : decode cX12_count 98 = .ok (.iaload, 1) := by decide +kernel
theorem dX12_count_99 : decode cX12_count 99 = .ok (.ireturn, 1) := by decide +kernel
theorem dX12_count_100 : decode cX12_count 100 = .ok (.aload_n 0, 1) := by decide +kernel
theorem dX12_count_101 : decode cX12_count 101 = .ok (.iconst 1, 1) := by decide +kernel
theorem dX12_count_102 : decode cX12_count 102 = .ok (.invokevirtual 379, 3) := by decide +kernel
theorem dX12_count_105 : decode cX12_count 105 = .ok (.ireturn, 1) := by decide +kernel
theorem dX12_count_106 : decode cX12_count 106 = .ok (.aload_n 0, 1) := by decide +kernel
theorem dX12_count_107 : decode cX12_count 107 = .ok (.iconst 2, 1) := by decide +kernel
theorem dX12_count_108 : decode cX12_count 108 = .ok (.invokevirtual 379, 3) := by decide +kernel
theorem dX12_count_111 : decode cX12_count 111 = .ok (.ireturn, 1) := by decide +kernel
theorem dX12_count_112 : decode cX12_count 112 = .ok (.aload_n 0, 1) := by decide +kernel
theorem dX12_count_113 : decode cX12_count 113 = .ok (.getfield 360, 3) := by decide +kernel
theorem dX12_count_116 : decode cX12_count 116 = .ok (.ireturn, 1) := by decide +kernel
theorem dX12_count_117 : decode cX12_count 117 = .ok (.aload_n 0, 1) := by decide +kernel
theorem dX12_count_118 : decode cX12_count 118 = .ok (.getfield 351, 3) := by decide +kernel
theorem dX12_count_121 : decode cX12_count 121 = .ok (.ireturn, 1) := by decide +kernel
theorem dX12_count_122 : decode cX12_count 122 = .ok (.aload_n 0, 1) := by decide +kernel
theorem dX12_count_123 : decode cX12_count 123 = .ok (.getfield 147, 3) := by decide +kernel
theorem dX12_count_126 : decode cX12_count 126 = .ok (.ireturn, 1) := by decide +kernel
theorem dX12_count_127 : decode cX12_count 127 = .ok (.bipush (-2), 2) := by decide +kernel
theorem dX12_count_129 : decode cX12_count 129 = .ok (.ireturn, 1) := by decide +kernel
theorem dX12_owedAtFirst_0 : decode cX12_owedAtFirst 0 = .ok (.aload_n 0, 1) := by decide +kernel
theorem dX12_owedAtFirst_1 : decode cX12_owedAtFirst 1 = .ok (.getfield 47, 3) := by decide +kernel
theorem dX12_owedAtFirst_4 : decode cX12_owedAtFirst 4 = .ok (.iload_n 1, 1) := by decide +kernel
theorem dX12_owedAtFirst_5 : decode cX12_owedAtFirst 5 = .ok (.iaload, 1) := by decide +kernel
theorem dX12_owedAtFirst_6 : decode cX12_owedAtFirst 6 = .ok (.aload_n 0, 1) := by decide +kernel
theorem dX12_owedAtFirst_7 : decode cX12_owedAtFirst 7 = .ok (.getfield 50, 3) := by decide +kernel
theorem dX12_owedAtFirst_10 : decode cX12_owedAtFirst 10 = .ok (.iload_n 1, 1) := by decide +kernel
theorem dX12_owedAtFirst_11 : decode cX12_owedAtFirst 11 = .ok (.iaload, 1) := by decide +kernel
theorem dX12_owedAtFirst_12 : decode cX12_owedAtFirst 12 = .ok (.iload_n 2, 1) := by decide +kernel
theorem dX12_owedAtFirst_13 : decode cX12_owedAtFirst 13 = .ok (.imul, 1) := by decide +kernel
theorem dX12_owedAtFirst_14 : decode cX12_owedAtFirst 14 = .ok (.iadd, 1) := by decide +kernel
theorem dX12_owedAtFirst_15 : decode cX12_owedAtFirst 15 = .ok (.ireturn, 1) := by decide +kernel
theorem dX12_owed_0 : decode cX12_owed 0 = .ok (.aload_n 0, 1) := by decide +kernel
theorem dX12_owed_1 : decode cX12_owed 1 = .ok (.iload_n 1, 1) := by decide +kernel
theorem dX12_owed_2 : decode cX12_owed 2 = .ok (.invokevirtual 375, 3) := by decide +kernel
theorem dX12_owed_5 : decode cX12_owed 5 = .ok (.ifCond .eq 19, 3) := by decide +kernel
theorem dX12_owed_8 : decode cX12_owed 8 = .ok (.iload_n 2, 1) := by decide +kernel
theorem dX12_owed_9 : decode cX12_owed 9 = .ok (.invokestatic 382, 3) := by decide +kernel
theorem dX12_owed_12 : decode cX12_owed 12 = .ok (.ifCond .eq 12, 3) := by decide +kernel
theorem dX12_owed_15 : decode cX12_owed 15 = .ok (.aload_n 0, 1) := by decide +kernel
theorem dX12_owed_16 : decode cX12_owed 16 = .ok (.iload_n 1, 1) := by decide +kernel
theorem dX12_owed_17 : decode cX12_owed 17 = .ok (.iload_n 2, 1) := by decide +kernel
theorem dX12_owed_18 : decode cX12_owed 18 = .ok (.invokevirtual 385, 3) := by decide +kernel
theorem dX12_owed_21 : decode cX12_owed 21 = .ok (.goto 4, 3) := by decide +kernel
theorem dX12_owed_24 : decode cX12_owed 24 = .ok (.iconst (-1), 1) := by decide +kernel
theorem dX12_owed_25 : decode cX12_owed 25 = .ok (.ireturn, 1) := by decide +kernel
theorem dX12_comes_0 : decode cX12_comes 0 = .ok (.aload_n 0, 1) := by decide +kernel
theorem dX12_comes_1 : decode cX12_comes 1 = .ok (.getfield 80, 3) := by decide +kernel
theorem dX12_comes_4 : decode cX12_comes 4 = .ok (.iconst 0, 1) := by decide +kernel
theorem dX12_comes_5 : decode cX12_comes 5 = .ok (.iload 4, 2) := by decide +kernel
theorem dX12_comes_7 : decode cX12_comes 7 = .ok (.i2l, 1) := by decide +kernel
theorem dX12_comes_8 : decode cX12_comes 8 = .ok (.lastore, 1) := by decide +kernel
theorem dX12_comes_9 : decode cX12_comes 9 = .ok (.aload_n 0, 1) := by decide +kernel
theorem dX12_comes_10 : decode cX12_comes 10 = .ok (.getfield 80, 3) := by decide +kernel
theorem dX12_comes_13 : decode cX12_comes 13 = .ok (.iconst 1, 1) := by decide +kernel
theorem dX12_comes_14 : decode cX12_comes 14 = .ok (.iload_n 2, 1) := by decide +kernel
theorem dX12_comes_15 : decode cX12_comes 15 = .ok (.invokestatic 357, 3) := by decide +kernel
theorem dX12_comes_18 : decode cX12_comes 18 = .ok (.i2l, 1) := by decide +kernel
theorem dX12_comes_19 : decode cX12_comes 19 = .ok (.lastore, 1) := by decide +kernel
theorem dX12_comes_20 : decode cX12_comes 20 = .ok (.aload_n 0, 1) := by decide +kernel
theorem dX12_comes_21 : decode cX12_comes 21 = .ok (.getfield 80, 3) := by decide +kernel
theorem dX12_comes_24 : decode cX12_comes 24 = .ok (.iconst 2, 1) := by decide +kernel
theorem dX12_comes_25 : decode cX12_comes 25 = .ok (.iload_n 3, 1) := by decide +kernel
theorem dX12_comes_26 : decode cX12_comes 26 = .ok (.invokestatic 357, 3) := by decide +kernel
theorem dX12_comes_29 : decode cX12_comes 29 = .ok (.i2l, 1) := by decide +kernel
theorem dX12_comes_30 : decode cX12_comes 30 = .ok (.lastore, 1) := by decide +kernel
theorem dX12_comes_31 : decode cX12_comes 31 = .ok (.iconst 0, 1) := by decide +kernel
theorem dX12_comes_32 : decode cX12_comes 32 = .ok (.istore 5, 2) := by decide +kernel
theorem dX12_comes_34 : decode cX12_comes 34 = .ok (.iconst 0, 1) := by decide +kernel
theorem dX12_comes_35 : decode cX12_comes 35 = .ok (.istore 6, 2) := by decide +kernel
theorem dX12_comes_37 : decode cX12_comes 37 = .ok (.iload 6, 2) := by decide +kernel
theorem dX12_comes_39 : decode cX12_comes 39 = .ok (.aload_n 0, 1) := by decide +kernel
theorem dX12_comes_40 : decode cX12_comes 40 = .ok (.getfield 20, 3) := by decide +kernel
theorem dX12_comes_43 : decode cX12_comes 43 = .ok (.iconst 0, 1) := by decide +kernel
theorem dX12_comes_44 : decode cX12_comes 44 = .ok (.iaload, 1) := by decide +kernel
theorem dX12_comes_45 : decode cX12_comes 45 = .ok (.if_icmp .ge 108, 3) := by decide +kernel
theorem dX12_comes_48 : decode cX12_comes 48 = .ok (.aload_n 0, 1) := by decide +kernel
theorem dX12_comes_49 : decode cX12_comes 49 = .ok (.getfield 23, 3) := by decide +kernel
theorem dX12_comes_52 : decode cX12_comes 52 = .ok (.iload 6, 2) := by decide +kernel
theorem dX12_comes_54 : decode cX12_comes 54 = .ok (.iaload, 1) := by decide +kernel
theorem dX12_comes_55 : decode cX12_comes 55 = .ok (.iload_n 1, 1) := by decide +kernel
theorem dX12_comes_56 : decode cX12_comes 56 = .ok (.if_icmp .ne 26, 3) := by decide +kernel
theorem dX12_comes_59 : decode cX12_comes 59 = .ok (.iload_n 1, 1) := by decide +kernel
theorem dX12_comes_60 : decode cX12_comes 60 = .ok (.iconst 2, 1) := by decide +kernel
theorem dX12_comes_61 : decode cX12_comes 61 = .ok (.if_icmp .eq 17, 3) := by decide +kernel
theorem dX12_comes_64 : decode cX12_comes 64 = .ok (.aload_n 0, 1) := by decide +kernel
theorem dX12_comes_65 : decode cX12_comes 65 = .ok (.getfield 26, 3) := by decide +kernel
theorem dX12_comes_68 : decode cX12_comes 68 = .ok (.iload 6, 2) := by decide +kernel
theorem dX12_comes_70 : decode cX12_comes 70 = .ok (.iaload, 1) := by decide +kernel
theorem dX12_comes_71 : decode cX12_comes 71 = .ok (.iload_n 2, 1) := by decide +kernel
theorem dX12_comes_72 : decode cX12_comes 72 = .ok (.iconst (-1), 1) := by decide +kernel
theorem dX12_comes_73 : decode cX12_comes 73 = .ok (.ixor, 1) := by decide +kernel
theorem dX12_comes_74 : decode cX12_comes 74 = .ok (.iand, 1) := by decide +kernel
theorem dX12_comes_75 : decode cX12_comes 75 = .ok (.ifCond .ne 7, 3) := by decide +kernel
theorem dX12_comes_78 : decode cX12_comes 78 = .ok (.iconst 1, 1) := by decide +kernel
theorem dX12_comes_79 : decode cX12_comes 79 = .ok (.goto 4, 3) := by decide +kernel
theorem dX12_comes_82 : decode cX12_comes 82 = .ok (.iconst 0, 1) := by decide +kernel
theorem dX12_comes_83 : decode cX12_comes 83 = .ok (.istore 7, 2) := by decide +kernel
theorem dX12_comes_85 : decode cX12_comes 85 = .ok (.iload 5, 2) := by decide +kernel
theorem dX12_comes_87 : decode cX12_comes 87 = .ok (.iload 7, 2) := by decide +kernel
theorem dX12_comes_89 : decode cX12_comes 89 = .ok (.ifCond .eq 54, 3) := by decide +kernel
theorem dX12_comes_92 : decode cX12_comes 92 = .ok (.aload_n 0, 1) := by decide +kernel
theorem dX12_comes_93 : decode cX12_comes 93 = .ok (.getfield 35, 3) := by decide +kernel
theorem dX12_comes_96 : decode cX12_comes 96 = .ok (.iload 6, 2) := by decide +kernel
theorem dX12_comes_98 : decode cX12_comes 98 = .ok (.iaload, 1) := by decide +kernel
theorem dX12_comes_99 : decode cX12_comes 99 = .ok (.aload_n 0, 1) := by decide +kernel
theorem dX12_comes_100 : decode cX12_comes 100 = .ok (.getfield 38, 3) := by decide +kernel
theorem dX12_comes_103 : decode cX12_comes 103 = .ok (.iload 6, 2) := by decide +kernel
theorem dX12_comes_105 : decode cX12_comes 105 = .ok (.iaload, 1) := by decide +kernel
theorem dX12_comes_106 : decode cX12_comes 106 = .ok (.if_icmp .eq 27, 3) := by decide +kernel
theorem dX12_comes_109 : decode cX12_comes 109 = .ok (.aload_n 0, 1) := by decide +kernel
theorem dX12_comes_110 : decode cX12_comes 110 = .ok (.iconst 0, 1) := by decide +kernel
theorem dX12_comes_111 : decode cX12_comes 111 = .ok (.aload_n 0, 1) := by decide +kernel
theorem dX12_comes_112 : decode cX12_comes 112 = .ok (.getfield 35, 3) := by decide +kernel
theorem dX12_comes_115 : decode cX12_comes 115 = .ok (.iload 6, 2) := by decide +kernel
theorem dX12_comes_117 : decode cX12_comes 117 = .ok (.iaload, 1) := by decide +kernel
theorem dX12_comes_118 : decode cX12_comes 118 = .ok (.aload_n 0, 1) := by decide +kernel
theorem dX12_comes_119 : decode cX12_comes 119 = .ok (.getfield 38, 3) := by decide +kernel
theorem dX12_comes_122 : decode cX12_comes 122 = .ok (.iload 6, 2) := by decide +kernel
theorem dX12_comes_124 : decode cX12_comes 124 = .ok (.iaload, 1) := by decide +kernel
theorem dX12_comes_125 : decode cX12_comes 125 = .ok (.invokevirtual 388, 3) := by decide +kernel
theorem dX12_comes_128 : decode cX12_comes 128 = .ok (.lconst 1, 1) := by decide +kernel
theorem dX12_comes_129 : decode cX12_comes 129 = .ok (.lcmp, 1) := by decide +kernel
theorem dX12_comes_130 : decode cX12_comes 130 = .ok (.ifCond .ne 13, 3) := by decide +kernel
theorem dX12_comes_133 : decode cX12_comes 133 = .ok (.aload_n 0, 1) := by decide +kernel
theorem dX12_comes_134 : decode cX12_comes 134 = .ok (.getfield 29, 3) := by decide +kernel
theorem dX12_comes_137 : decode cX12_comes 137 = .ok (.iload 6, 2) := by decide +kernel
theorem dX12_comes_139 : decode cX12_comes 139 = .ok (.iaload, 1) := by decide +kernel
theorem dX12_comes_140 : decode cX12_comes 140 = .ok (.goto 4, 3) := by decide +kernel
theorem dX12_comes_143 : decode cX12_comes 143 = .ok (.iconst 0, 1) := by decide +kernel
theorem dX12_comes_144 : decode cX12_comes 144 = .ok (.iadd, 1) := by decide +kernel
theorem dX12_comes_145 : decode cX12_comes 145 = .ok (.istore 5, 2) := by decide +kernel
theorem dX12_comes_147 : decode cX12_comes 147 = .ok (.iinc 6 1, 3) := by decide +kernel
theorem dX12_comes_150 : decode cX12_comes 150 = .ok (.goto (-113), 3) := by decide +kernel
theorem dX12_comes_153 : decode cX12_comes 153 = .ok (.iload 5, 2) := by decide +kernel
theorem dX12_comes_155 : decode cX12_comes 155 = .ok (.ireturn, 1) := by decide +kernel
theorem dX12_isSet_0 : decode cX12_isSet 0 = .ok (.iload_n 1, 1) := by decide +kernel
theorem dX12_isSet_1 : decode cX12_isSet 1 = .ok (.ifCond .lt 18, 3) := by decide +kernel
theorem dX12_isSet_4 : decode cX12_isSet 4 = .ok (.iload_n 1, 1) := by decide +kernel
theorem dX12_isSet_5 : decode cX12_isSet 5 = .ok (.aload_n 0, 1) := by decide +kernel
theorem dX12_isSet_6 : decode cX12_isSet 6 = .ok (.invokevirtual 354, 3) := by decide +kernel
theorem dX12_isSet_9 : decode cX12_isSet 9 = .ok (.iconst (-1), 1) := by decide +kernel
theorem dX12_isSet_10 : decode cX12_isSet 10 = .ok (.ixor, 1) := by decide +kernel
theorem dX12_isSet_11 : decode cX12_isSet 11 = .ok (.iand, 1) := by decide +kernel
theorem dX12_isSet_12 : decode cX12_isSet 12 = .ok (.ifCond .ne 7, 3) := by decide +kernel
theorem dX12_isSet_15 : decode cX12_isSet 15 = .ok (.iconst 1, 1) := by decide +kernel
theorem dX12_isSet_16 : decode cX12_isSet 16 = .ok (.goto 4, 3) := by decide +kernel
theorem dX12_isSet_19 : decode cX12_isSet 19 = .ok (.iconst 0, 1) := by decide +kernel
theorem dX12_isSet_20 : decode cX12_isSet 20 = .ok (.ireturn, 1) := by decide +kernel
theorem dX12_earned_0 : decode cX12_earned 0 = .ok (.aload_n 0, 1) := by decide +kernel
theorem dX12_earned_1 : decode cX12_earned 1 = .ok (.iload_n 1, 1) := by decide +kernel
theorem dX12_earned_2 : decode cX12_earned 2 = .ok (.invokevirtual 392, 3) := by decide +kernel
theorem dX12_earned_5 : decode cX12_earned 5 = .ok (.ifCond .eq 46, 3) := by decide +kernel
theorem dX12_earned_8 : decode cX12_earned 8 = .ok (.iload_n 2, 1) := by decide +kernel
theorem dX12_earned_9 : decode cX12_earned 9 = .ok (.invokestatic 382, 3) := by decide +kernel
theorem dX12_earned_12 : decode cX12_earned 12 = .ok (.ifCond .eq 39, 3) := by decide +kernel
theorem dX12_earned_15 : decode cX12_earned 15 = .ok (.iload_n 3, 1) := by decide +kernel
theorem dX12_earned_16 : decode cX12_earned 16 = .ok (.i2l, 1) := by decide +kernel
theorem dX12_earned_17 : decode cX12_earned 17 = .ok (.lconst 0, 1) := by decide +kernel
theorem dX12_earned_18 : decode cX12_earned 18 = .ok (.lconst 1, 1) := by decide +kernel
theorem dX12_earned_19 : decode cX12_earned 19 = .ok (.invokestatic 201, 3) := by decide +kernel
theorem dX12_earned_22 : decode cX12_earned 22 = .ok (.ifCond .eq 29, 3) := by decide +kernel
theorem dX12_earned_25 : decode cX12_earned 25 = .ok (.aload_n 0, 1) := by decide +kernel
theorem dX12_earned_26 : decode cX12_earned 26 = .ok (.iload_n 3, 1) := by decide +kernel
theorem dX12_earned_27 : decode cX12_earned 27 = .ok (.ifCond .ne 7, 3) := by decide +kernel
theorem dX12_earned_30 : decode cX12_earned 30 = .ok (.iconst 1, 1) := by decide +kernel
theorem dX12_earned_31 : decode cX12_earned 31 = .ok (.goto 4, 3) := by decide +kernel
theorem dX12_earned_34 : decode cX12_earned 34 = .ok (.iconst 2, 1) := by decide +kernel
theorem dX12_earned_35 : decode cX12_earned 35 = .ok (.iload_n 1, 1) := by decide +kernel
theorem dX12_earned_36 : decode cX12_earned 36 = .ok (.aload_n 0, 1) := by decide +kernel
theorem dX12_earned_37 : decode cX12_earned 37 = .ok (.invokevirtual 354, 3) := by decide +kernel
theorem dX12_earned_40 : decode cX12_earned 40 = .ok (.iload_n 1, 1) := by decide +kernel
theorem dX12_earned_41 : decode cX12_earned 41 = .ok (.iconst (-1), 1) := by decide +kernel
theorem dX12_earned_42 : decode cX12_earned 42 = .ok (.ixor, 1) := by decide +kernel
theorem dX12_earned_43 : decode cX12_earned 43 = .ok (.iand, 1) := by decide +kernel
theorem dX12_earned_44 : decode cX12_earned 44 = .ok (.iload_n 2, 1) := by decide +kernel
theorem dX12_earned_45 : decode cX12_earned 45 = .ok (.invokevirtual 395, 3) := by decide +kernel
theorem dX12_earned_48 : decode cX12_earned 48 = .ok (.goto 4, 3) := by decide +kernel
theorem dX12_earned_51 : decode cX12_earned 51 = .ok (.iconst (-1), 1) := by decide +kernel
theorem dX12_earned_52 : decode cX12_earned 52 = .ok (.ireturn, 1) := by decide +kernel
theorem dX12_act_0 : decode cX12_act 0 = .ok (.aload_n 0, 1) := by decide +kernel
theorem dX12_act_1 : decode cX12_act 1 = .ok (.getfield 351, 3) := by decide +kernel
theorem dX12_act_4 : decode cX12_act 4 = .ok (.bipush 60, 2) := by decide +kernel
theorem dX12_act_6 : decode cX12_act 6 = .ok (.if_icmp .eq 64, 3) := by decide +kernel
theorem dX12_act_9 : decode cX12_act 9 = .ok (.iload_n 1, 1) := by decide +kernel
theorem dX12_act_10 : decode cX12_act 10 = .ok (.invokestatic 382, 3) := by decide +kernel
theorem dX12_act_13 : decode cX12_act 13 = .ok (.ifCond .eq 57, 3) := by decide +kernel
theorem dX12_act_16 : decode cX12_act 16 = .ok (.aload_n 0, 1) := by decide +kernel
theorem dX12_act_17 : decode cX12_act 17 = .ok (.getfield 351, 3) := by decide +kernel
theorem dX12_act_20 : decode cX12_act 20 = .ok (.ifCond .le 18, 3) := by decide +kernel
theorem dX12_act_23 : decode cX12_act 23 = .ok (.iload_n 1, 1) := by decide +kernel
theorem dX12_act_24 : decode cX12_act 24 = .ok (.aload_n 0, 1) := by decide +kernel
theorem dX12_act_25 : decode cX12_act 25 = .ok (.getfield 87, 3) := by decide +kernel
theorem dX12_act_28 : decode cX12_act 28 = .ok (.aload_n 0, 1) := by decide +kernel
theorem dX12_act_29 : decode cX12_act 29 = .ok (.getfield 351, 3) := by decide +kernel
theorem dX12_act_32 : decode cX12_act 32 = .ok (.iconst 1, 1) := by decide +kernel
theorem dX12_act_33 : decode cX12_act 33 = .ok (.isub, 1) := by decide +kernel
theorem dX12_act_34 : decode cX12_act 34 = .ok (.iaload, 1) := by decide +kernel
theorem dX12_act_35 : decode cX12_act 35 = .ok (.if_icmp .lt 35, 3) := by decide +kernel
theorem dX12_act_38 : decode cX12_act 38 = .ok (.iload_n 2, 1) := by decide +kernel
theorem dX12_act_39 : decode cX12_act 39 = .ok (.i2l, 1) := by decide +kernel
theorem dX12_act_40 : decode cX12_act 40 = .ok (.lconst 0, 1) := by decide +kernel
theorem dX12_act_41 : decode cX12_act 41 = .ok (.ldc2_w 399, 3) := by decide +kernel
theorem dX12_act_44 : decode cX12_act 44 = .ok (.invokestatic 201, 3) := by decide +kernel
theorem dX12_act_47 : decode cX12_act 47 = .ok (.ifCond .eq 23, 3) := by decide +kernel
theorem dX12_act_50 : decode cX12_act 50 = .ok (.iload_n 2, 1) := by decide +kernel
theorem dX12_act_51 : decode cX12_act 51 = .ok (.iconst 4, 1) := by decide +kernel
theorem dX12_act_52 : decode cX12_act 52 = .ok (.if_icmp .ne 10, 3) := by decide +kernel
theorem dX12_act_55 : decode cX12_act 55 = .ok (.iload_n 3, 1) := by decide +kernel
theorem dX12_act_56 : decode cX12_act 56 = .ok (.ifCond .eq 16, 3) := by decide +kernel
theorem dX12_act_59 : decode cX12_act 59 = .ok (.goto 11, 3) := by decide +kernel
theorem dX12_act_62 : decode cX12_act 62 = .ok (.aload_n 0, 1) := by decide +kernel
theorem dX12_act_63 : decode cX12_act 63 = .ok (.iload_n 3, 1) := by decide +kernel
theorem dX12_act_64 : decode cX12_act 64 = .ok (.invokevirtual 375, 3) := by decide +kernel
theorem dX12_act_67 : decode cX12_act 67 = .ok (.ifCond .ne 5, 3) := by decide +kernel
theorem dX12_act_70 : decode cX12_act 70 = .ok (.iconst (-1), 1) := by decide +kernel
theorem dX12_act_71 : decode cX12_act 71 = .ok (.ireturn, 1) := by decide +kernel
theorem dX12_act_72 : decode cX12_act 72 = .ok (.aload_n 0, 1) := by decide +kernel
theorem dX12_act_73 : decode cX12_act 73 = .ok (.getfield 87, 3) := by decide +kernel
theorem dX12_act_76 : decode cX12_act 76 = .ok (.aload_n 0, 1) := by decide +kernel
theorem dX12_act_77 : decode cX12_act 77 = .ok (.getfield 351, 3) := by decide +kernel
theorem dX12_act_80 : decode cX12_act 80 = .ok (.iload_n 1, 1) := by decide +kernel
theorem dX12_act_81 : decode cX12_act 81 = .ok (.iastore, 1) := by decide +kernel
theorem dX12_act_82 : decode cX12_act 82 = .ok (.aload_n 0, 1) := by decide +kernel
theorem dX12_act_83 : decode cX12_act 83 = .ok (.getfield 90, 3) := by decide +kernel
theorem dX12_act_86 : decode cX12_act 86 = .ok (.aload_n 0, 1) := by decide +kernel
theorem dX12_act_87 : decode cX12_act 87 = .ok (.getfield 351, 3) := by decide +kernel
theorem dX12_act_90 : decode cX12_act 90 = .ok (.iload_n 2, 1) := by decide +kernel
theorem dX12_act_91 : decode cX12_act 91 = .ok (.iastore, 1) := by decide +kernel
theorem dX12_act_92 : decode cX12_act 92 = .ok (.aload_n 0, 1) := by decide +kernel
theorem dX12_act_93 : decode cX12_act 93 = .ok (.getfield 93, 3) := by decide +kernel
theorem dX12_act_96 : decode cX12_act 96 = .ok (.aload_n 0, 1) := by decide +kernel
theorem dX12_act_97 : decode cX12_act 97 = .ok (.getfield 351, 3) := by decide +kernel
theorem dX12_act_100 : decode cX12_act 100 = .ok (.iload_n 3, 1) := by decide +kernel
theorem dX12_act_101 : decode cX12_act 101 = .ok (.iastore, 1) := by decide +kernel
theorem dX12_act_102 : decode cX12_act 102 = .ok (.aload_n 0, 1) := by decide +kernel
theorem dX12_act_103 : decode cX12_act 103 = .ok (.dup, 1) := by decide +kernel
theorem dX12_act_104 : decode cX12_act 104 = .ok (.getfield 351, 3) := by decide +kernel
theorem dX12_act_107 : decode cX12_act 107 = .ok (.iconst 1, 1) := by decide +kernel
theorem dX12_act_108 : decode cX12_act 108 = .ok (.iadd, 1) := by decide +kernel
theorem dX12_act_109 : decode cX12_act 109 = .ok (.putfield 351, 3) := by decide +kernel
theorem dX12_act_112 : decode cX12_act 112 = .ok (.aload_n 0, 1) := by decide +kernel
theorem dX12_act_113 : decode cX12_act 113 = .ok (.getfield 351, 3) := by decide +kernel
theorem dX12_act_116 : decode cX12_act 116 = .ok (.ireturn, 1) := by decide +kernel
theorem dX12_row_0 : decode cX12_row 0 = .ok (.iload_n 1, 1) := by decide +kernel
theorem dX12_row_1 : decode cX12_row 1 = .ok (.i2l, 1) := by decide +kernel
theorem dX12_row_2 : decode cX12_row 2 = .ok (.lconst 0, 1) := by decide +kernel
theorem dX12_row_3 : decode cX12_row 3 = .ok (.aload_n 0, 1) := by decide +kernel
theorem dX12_row_4 : decode cX12_row 4 = .ok (.getfield 351, 3) := by decide +kernel
theorem dX12_row_7 : decode cX12_row 7 = .ok (.i2l, 1) := by decide +kernel
theorem dX12_row_8 : decode cX12_row 8 = .ok (.invokestatic 201, 3) := by decide +kernel
theorem dX12_row_11 : decode cX12_row 11 = .ok (.ifCond .ne 5, 3) := by decide +kernel
theorem dX12_row_14 : decode cX12_row 14 = .ok (.iconst 0, 1) := by decide +kernel
theorem dX12_row_15 : decode cX12_row 15 = .ok (.ireturn, 1) := by decide +kernel
theorem dX12_row_16 : decode cX12_row 16 = .ok (.aload_n 0, 1) := by decide +kernel
theorem dX12_row_17 : decode cX12_row 17 = .ok (.iload_n 1, 1) := by decide +kernel
theorem dX12_row_18 : decode cX12_row 18 = .ok (.putfield 351, 3) := by decide +kernel
theorem dX12_row_21 : decode cX12_row 21 = .ok (.iconst 1, 1) := by decide +kernel
theorem dX12_row_22 : decode cX12_row 22 = .ok (.ireturn, 1) := by decide +kernel
theorem dX12_begins_0 : decode cX12_begins 0 = .ok (.iconst 0, 1) := by decide +kernel
theorem dX12_begins_1 : decode cX12_begins 1 = .ok (.istore_n 1, 1) := by decide +kernel
theorem dX12_begins_2 : decode cX12_begins 2 = .ok (.iload_n 1, 1) := by decide +kernel
theorem dX12_begins_3 : decode cX12_begins 3 = .ok (.bipush 8, 2) := by decide +kernel
theorem dX12_begins_5 : decode cX12_begins 5 = .ok (.if_icmp .ge 68, 3) := by decide +kernel
theorem dX12_begins_8 : decode cX12_begins 8 = .ok (.aload_n 0, 1) := by decide +kernel
theorem dX12_begins_9 : decode cX12_begins 9 = .ok (.getfield 96, 3) := by decide +kernel
theorem dX12_begins_12 : decode cX12_begins 12 = .ok (.iload_n 1, 1) := by decide +kernel
theorem dX12_begins_13 : decode cX12_begins 13 = .ok (.aload_n 0, 1) := by decide +kernel
theorem dX12_begins_14 : decode cX12_begins 14 = .ok (.getfield 44, 3) := by decide +kernel
theorem dX12_begins_17 : decode cX12_begins 17 = .ok (.iload_n 1, 1) := by decide +kernel
theorem dX12_begins_18 : decode cX12_begins 18 = .ok (.iaload, 1) := by decide +kernel
theorem dX12_begins_19 : decode cX12_begins 19 = .ok (.iconst 1, 1) := by decide +kernel
theorem dX12_begins_20 : decode cX12_begins 20 = .ok (.if_icmp .ne 7, 3) := by decide +kernel
theorem dX12_begins_23 : decode cX12_begins 23 = .ok (.iconst 0, 1) := by decide +kernel
theorem dX12_begins_24 : decode cX12_begins 24 = .ok (.goto 4, 3) := by decide +kernel
theorem dX12_begins_27 : decode cX12_begins 27 = .ok (.iconst 2, 1) := by decide +kernel
theorem dX12_begins_28 : decode cX12_begins 28 = .ok (.iastore, 1) := by decide +kernel
theorem dX12_begins_29 : decode cX12_begins 29 = .ok (.aload_n 0, 1) := by decide +kernel
theorem dX12_begins_30 : decode cX12_begins 30 = .ok (.getfield 99, 3) := by decide +kernel
theorem dX12_begins_33 : decode cX12_begins 33 = .ok (.iload_n 1, 1) := by decide +kernel
theorem dX12_begins_34 : decode cX12_begins 34 = .ok (.aload_n 0, 1) := by decide +kernel
theorem dX12_begins_35 : decode cX12_begins 35 = .ok (.getfield 47, 3) := by decide +kernel
theorem dX12_begins_38 : decode cX12_begins 38 = .ok (.iload_n 1, 1) := by decide +kernel
theorem dX12_begins_39 : decode cX12_begins 39 = .ok (.iaload, 1) := by decide +kernel
theorem dX12_begins_40 : decode cX12_begins 40 = .ok (.iastore, 1) := by decide +kernel
theorem dX12_begins_41 : decode cX12_begins 41 = .ok (.aload_n 0, 1) := by decide +kernel
theorem dX12_begins_42 : decode cX12_begins 42 = .ok (.getfield 102, 3) := by decide +kernel
theorem dX12_begins_45 : decode cX12_begins 45 = .ok (.iload_n 1, 1) := by decide +kernel
theorem dX12_begins_46 : decode cX12_begins 46 = .ok (.aload_n 0, 1) := by decide +kernel
theorem dX12_begins_47 : decode cX12_begins 47 = .ok (.getfield 50, 3) := by decide +kernel
theorem dX12_begins_50 : decode cX12_begins 50 = .ok (.iload_n 1, 1) := by decide +kernel
theorem dX12_begins_51 : decode cX12_begins 51 = .ok (.iaload, 1) := by decide +kernel
theorem dX12_begins_52 : decode cX12_begins 52 = .ok (.iastore, 1) := by decide +kernel
theorem dX12_begins_53 : decode cX12_begins 53 = .ok (.aload_n 0, 1) := by decide +kernel
theorem dX12_begins_54 : decode cX12_begins 54 = .ok (.getfield 105, 3) := by decide +kernel
theorem dX12_begins_57 : decode cX12_begins 57 = .ok (.iload_n 1, 1) := by decide +kernel
theorem dX12_begins_58 : decode cX12_begins 58 = .ok (.iconst 0, 1) := by decide +kernel
theorem dX12_begins_59 : decode cX12_begins 59 = .ok (.iastore, 1) := by decide +kernel
theorem dX12_begins_60 : decode cX12_begins 60 = .ok (.aload_n 0, 1) := by decide +kernel
theorem dX12_begins_61 : decode cX12_begins 61 = .ok (.getfield 114, 3) := by decide +kernel
theorem dX12_begins_64 : decode cX12_begins 64 = .ok (.iload_n 1, 1) := by decide +kernel
theorem dX12_begins_65 : decode cX12_begins 65 = .ok (.iconst 0, 1) := by decide +kernel
theorem dX12_begins_66 : decode cX12_begins 66 = .ok (.bastore, 1) := by decide +kernel
theorem dX12_begins_67 : decode cX12_begins 67 = .ok (.iinc 1 1, 3) := by decide +kernel
theorem dX12_begins_70 : decode cX12_begins 70 = .ok (.goto (-68), 3) := by decide +kernel
theorem dX12_begins_73 : decode cX12_begins 73 = .ok (.aload_n 0, 1) := by decide +kernel
theorem dX12_begins_74 : decode cX12_begins 74 = .ok (.aload_n 0, 1) := by decide +kernel
theorem dX12_begins_75 : decode cX12_begins 75 = .ok (.getfield 74, 3) := by decide +kernel
theorem dX12_begins_78 : decode cX12_begins 78 = .ok (.iconst 0, 1) := by decide +kernel
theorem dX12_begins_79 : decode cX12_begins 79 = .ok (.iaload, 1) := by decide +kernel
theorem dX12_begins_80 : decode cX12_begins 80 = .ok (.putfield 401, 3) := by decide +kernel
theorem dX12_begins_83 : decode cX12_begins 83 = .ok (.aload_n 0, 1) := by decide +kernel
theorem dX12_begins_84 : decode cX12_begins 84 = .ok (.iconst 0, 1) := by decide +kernel
theorem dX12_begins_85 : decode cX12_begins 85 = .ok (.putfield 404, 3) := by decide +kernel
theorem dX12_begins_88 : decode cX12_begins 88 = .ok (.aload_n 0, 1) := by decide +kernel
theorem dX12_begins_89 : decode cX12_begins 89 = .ok (.iconst (-1), 1) := by decide +kernel
theorem dX12_begins_90 : decode cX12_begins 90 = .ok (.putfield 408, 3) := by decide +kernel
theorem dX12_begins_93 : decode cX12_begins 93 = .ok (.aload_n 0, 1) := by decide +kernel
theorem dX12_begins_94 : decode cX12_begins 94 = .ok (.iconst (-1), 1) := by decide +kernel
theorem dX12_begins_95 : decode cX12_begins 95 = .ok (.putfield 411, 3) := by decide +kernel
theorem dX12_begins_98 : decode cX12_begins 98 = .ok (.aload_n 0, 1) := by decide +kernel
theorem dX12_begins_99 : decode cX12_begins 99 = .ok (.iconst 0, 1) := by decide +kernel
theorem dX12_begins_100 : decode cX12_begins 100 = .ok (.putfield 414, 3) := by decide +kernel
theorem dX12_begins_103 : decode cX12_begins 103 = .ok (.return_, 1) := by decide +kernel
theorem dX12_placed_0 : decode cX12_placed 0 = .ok (.iconst 0, 1) := by decide +kernel
theorem dX12_placed_1 : decode cX12_placed 1 = .ok (.istore_n 2, 1) := by decide +kernel
theorem dX12_placed_2 : decode cX12_placed 2 = .ok (.iconst 0, 1) := by decide +kernel
theorem dX12_placed_3 : decode cX12_placed 3 = .ok (.istore_n 3, 1) := by decide +kernel
theorem dX12_placed_4 : decode cX12_placed 4 = .ok (.iload_n 3, 1) := by decide +kernel
theorem dX12_placed_5 : decode cX12_placed 5 = .ok (.bipush 8, 2) := by decide +kernel
theorem dX12_placed_7 : decode cX12_placed 7 = .ok (.if_icmp .ge 39, 3) := by decide +kernel
theorem dX12_placed_10 : decode cX12_placed 10 = .ok (.iload_n 2, 1) := by decide +kernel
theorem dX12_placed_11 : decode cX12_placed 11 = .ok (.aload_n 0, 1) := by decide +kernel
theorem dX12_placed_12 : decode cX12_placed 12 = .ok (.getfield 96, 3) := by decide +kernel
theorem dX12_placed_15 : decode cX12_placed 15 = .ok (.iload_n 3, 1) := by decide +kernel
theorem dX12_placed_16 : decode cX12_placed 16 = .ok (.iaload, 1) := by decide +kernel
theorem dX12_placed_17 : decode cX12_placed 17 = .ok (.iload_n 1, 1) := by decide +kernel
theorem dX12_placed_18 : decode cX12_placed 18 = .ok (.if_icmp .ne 19, 3) := by decide +kernel
theorem dX12_placed_21 : decode cX12_placed 21 = .ok (.aload_n 0, 1) := by decide +kernel
theorem dX12_placed_22 : decode cX12_placed 22 = .ok (.getfield 44, 3) := by decide +kernel
theorem dX12_placed_25 : decode cX12_placed 25 = .ok (.iload_n 3, 1) := by decide +kernel
theorem dX12_placed_26 : decode cX12_placed 26 = .ok (.iaload, 1) := by decide +kernel
theorem dX12_placed_27 : decode cX12_placed 27 = .ok (.iconst 1, 1) := by decide +kernel
theorem dX12_placed_28 : decode cX12_placed 28 = .ok (.if_icmp .ne 9, 3) := by decide +kernel
theorem dX12_placed_31 : decode cX12_placed 31 = .ok (.iconst 1, 1) := by decide +kernel
theorem dX12_placed_32 : decode cX12_placed 32 = .ok (.iload_n 3, 1) := by decide +kernel
theorem dX12_placed_33 : decode cX12_placed 33 = .ok (.ishl, 1) := by decide +kernel
theorem dX12_placed_34 : decode cX12_placed 34 = .ok (.goto 4, 3) := by decide +kernel
theorem dX12_placed_37 : decode cX12_placed 37 = .ok (.iconst 0, 1) := by decide +kernel
theorem dX12_placed_38 : decode cX12_placed 38 = .ok (.ior, 1) := by decide +kernel
theorem dX12_placed_39 : decode cX12_placed 39 = .ok (.istore_n 2, 1) := by decide +kernel
theorem dX12_placed_40 : decode cX12_placed 40 = .ok (.iinc 3 1, 3) := by decide +kernel
theorem dX12_placed_43 : decode cX12_placed 43 = .ok (.goto (-39), 3) := by decide +kernel
theorem dX12_placed_46 : decode cX12_placed 46 = .ok (.iload_n 2, 1) := by decide +kernel
theorem dX12_placed_47 : decode cX12_placed 47 = .ok (.ireturn, 1) := by decide +kernel
theorem dX12_owedNow_0 : decode cX12_owedNow 0 = .ok (.aload_n 0, 1) := by decide +kernel
theorem dX12_owedNow_1 : decode cX12_owedNow 1 = .ok (.getfield 99, 3) := by decide +kernel
theorem dX12_owedNow_4 : decode cX12_owedNow 4 = .ok (.iload_n 1, 1) := by decide +kernel
theorem dX12_owedNow_5 : decode cX12_owedNow 5 = .ok (.iaload, 1) := by decide +kernel
theorem dX12_owedNow_6 : decode cX12_owedNow 6 = .ok (.aload_n 0, 1) := by decide +kernel
theorem dX12_owedNow_7 : decode cX12_owedNow 7 = .ok (.getfield 102, 3) := by decide +kernel
theorem dX12_owedNow_10 : decode cX12_owedNow 10 = .ok (.iload_n 1, 1) := by decide +kernel
theorem dX12_owedNow_11 : decode cX12_owedNow 11 = .ok (.iaload, 1) := by decide +kernel
theorem dX12_owedNow_12 : decode cX12_owedNow 12 = .ok (.iload_n 2, 1) := by decide +kernel
theorem dX12_owedNow_13 : decode cX12_owedNow 13 = .ok (.aload_n 0, 1) := by decide +kernel
theorem dX12_owedNow_14 : decode cX12_owedNow 14 = .ok (.getfield 105, 3) := by decide +kernel
theorem dX12_owedNow_17 : decode cX12_owedNow 17 = .ok (.iload_n 1, 1) := by decide +kernel
theorem dX12_owedNow_18 : decode cX12_owedNow 18 = .ok (.iaload, 1) := by decide +kernel
theorem dX12_owedNow_19 : decode cX12_owedNow 19 = .ok (.isub, 1) := by decide +kernel
theorem dX12_owedNow_20 : decode cX12_owedNow 20 = .ok (.imul, 1) := by decide +kernel
theorem dX12_owedNow_21 : decode cX12_owedNow 21 = .ok (.iadd, 1) := by decide +kernel
theorem dX12_owedNow_22 : decode cX12_owedNow 22 = .ok (.ireturn, 1) := by decide +kernel
theorem dX12_loses_0 : decode cX12_loses 0 = .ok (.iconst 0, 1) := by decide +kernel
theorem dX12_loses_1 : decode cX12_loses 1 = .ok (.istore_n 2, 1) := by decide +kernel
theorem dX12_loses_2 : decode cX12_loses 2 = .ok (.iload_n 2, 1) := by decide +kernel
theorem dX12_loses_3 : decode cX12_loses 3 = .ok (.bipush 8, 2) := by decide +kernel
theorem dX12_loses_5 : decode cX12_loses 5 = .ok (.if_icmp .ge 54, 3) := by decide +kernel
theorem dX12_loses_8 : decode cX12_loses 8 = .ok (.aload_n 0, 1) := by decide +kernel
theorem dX12_loses_9 : decode cX12_loses 9 = .ok (.getfield 96, 3) := by decide +kernel
theorem dX12_loses_12 : decode cX12_loses 12 = .ok (.iload_n 2, 1) := by decide +kernel
theorem dX12_loses_13 : decode cX12_loses 13 = .ok (.aload_n 0, 1) := by decide +kernel
theorem dX12_loses_14 : decode cX12_loses 14 = .ok (.getfield 96, 3) := by decide +kernel
theorem dX12_loses_17 : decode cX12_loses 17 = .ok (.iload_n 2, 1) := by decide +kernel
theorem dX12_loses_18 : decode cX12_loses 18 = .ok (.iaload, 1) := by decide +kernel
theorem dX12_loses_19 : decode cX12_loses 19 = .ok (.ifCond .ne 27, 3) := by decide +kernel
theorem dX12_loses_22 : decode cX12_loses 22 = .ok (.aload_n 0, 1) := by decide +kernel
theorem dX12_loses_23 : decode cX12_loses 23 = .ok (.getfield 53, 3) := by decide +kernel
theorem dX12_loses_26 : decode cX12_loses 26 = .ok (.iload_n 2, 1) := by decide +kernel
theorem dX12_loses_27 : decode cX12_loses 27 = .ok (.iaload, 1) := by decide +kernel
theorem dX12_loses_28 : decode cX12_loses 28 = .ok (.iconst (-1), 1) := by decide +kernel
theorem dX12_loses_29 : decode cX12_loses 29 = .ok (.if_icmp .eq 17, 3) := by decide +kernel
theorem dX12_loses_32 : decode cX12_loses 32 = .ok (.aload_n 0, 1) := by decide +kernel
theorem dX12_loses_33 : decode cX12_loses 33 = .ok (.getfield 53, 3) := by decide +kernel
theorem dX12_loses_36 : decode cX12_loses 36 = .ok (.iload_n 2, 1) := by decide +kernel
theorem dX12_loses_37 : decode cX12_loses 37 = .ok (.iaload, 1) := by decide +kernel
theorem dX12_loses_38 : decode cX12_loses 38 = .ok (.iload_n 1, 1) := by decide +kernel
theorem dX12_loses_39 : decode cX12_loses 39 = .ok (.if_icmp .gt 7, 3) := by decide +kernel
theorem dX12_loses_42 : decode cX12_loses 42 = .ok (.iconst 2, 1) := by decide +kernel
theorem dX12_loses_43 : decode cX12_loses 43 = .ok (.goto 9, 3) := by decide +kernel
theorem dX12_loses_46 : decode cX12_loses 46 = .ok (.aload_n 0, 1) := by decide +kernel
theorem dX12_loses_47 : decode cX12_loses 47 = .ok (.getfield 96, 3) := by decide +kernel
theorem dX12_loses_50 : decode cX12_loses 50 = .ok (.iload_n 2, 1) := by decide +kernel
theorem dX12_loses_51 : decode cX12_loses 51 = .ok (.iaload, 1) := by decide +kernel
theorem dX12_loses_52 : decode cX12_loses 52 = .ok (.iastore, 1) := by decide +kernel
theorem dX12_loses_53 : decode cX12_loses 53 = .ok (.iinc 2 1, 3) := by decide +kernel
theorem dX12_loses_56 : decode cX12_loses 56 = .ok (.goto (-54), 3) := by decide +kernel
theorem dX12_loses_59 : decode cX12_loses 59 = .ok (.return_, 1) := by decide +kernel
theorem dX12_does_0 : decode cX12_does 0 = .ok (.aload_n 0, 1) := by decide +kernel
theorem dX12_does_1 : decode cX12_does 1 = .ok (.getfield 87, 3) := by decide +kernel
theorem dX12_does_4 : decode cX12_does 4 = .ok (.iload_n 1, 1) := by decide +kernel
theorem dX12_does_5 : decode cX12_does 5 = .ok (.iaload, 1) := by decide +kernel
theorem dX12_does_6 : decode cX12_does 6 = .ok (.istore_n 2, 1) := by decide +kernel
theorem dX12_does_7 : decode cX12_does 7 = .ok (.aload_n 0, 1) := by decide +kernel
theorem dX12_does_8 : decode cX12_does 8 = .ok (.getfield 93, 3) := by decide +kernel
theorem dX12_does_11 : decode cX12_does 11 = .ok (.iload_n 1, 1) := by decide +kernel
theorem dX12_does_12 : decode cX12_does 12 = .ok (.iaload, 1) := by decide +kernel
theorem dX12_does_13 : decode cX12_does 13 = .ok (.istore_n 3, 1) := by decide +kernel
theorem dX12_does_14 : decode cX12_does 14 = .ok (.aload_n 0, 1) := by decide +kernel
theorem dX12_does_15 : decode cX12_does 15 = .ok (.getfield 90, 3) := by decide +kernel
theorem dX12_does_18 : decode cX12_does 18 = .ok (.iload_n 1, 1) := by decide +kernel
theorem dX12_does_19 : decode cX12_does 19 = .ok (.iaload, 1) := by decide +kernel
theorem dX12_does_20 : decode cX12_does 20 = .ok (.istore 4, 2) := by decide +kernel
theorem dX12_does_22 : decode cX12_does 22 = .ok (.iload 4, 2) := by decide +kernel
theorem dX12_does_24 : decode cX12_does 24 = .ok (.iconst 4, 1) := by decide +kernel
theorem dX12_does_25 : decode cX12_does 25 = .ok (.if_icmp .ne 100, 3) := by decide +kernel
theorem dX12_does_28 : decode cX12_does 28 = .ok (.aload_n 0, 1) := by decide +kernel
theorem dX12_does_29 : decode cX12_does 29 = .ok (.getfield 404, 3) := by decide +kernel
theorem dX12_does_32 : decode cX12_does 32 = .ok (.ifCond .ne 42, 3) := by decide +kernel
theorem dX12_does_35 : decode cX12_does 35 = .ok (.aload_n 0, 1) := by decide +kernel
theorem dX12_does_36 : decode cX12_does 36 = .ok (.getfield 71, 3) := by decide +kernel
theorem dX12_does_39 : decode cX12_does 39 = .ok (.iconst 0, 1) := by decide +kernel
theorem dX12_does_40 : decode cX12_does 40 = .ok (.iaload, 1) := by decide +kernel
theorem dX12_does_41 : decode cX12_does 41 = .ok (.iconst (-1), 1) := by decide +kernel
theorem dX12_does_42 : decode cX12_does 42 = .ok (.if_icmp .eq 32, 3) := by decide +kernel
theorem dX12_does_45 : decode cX12_does 45 = .ok (.aload_n 0, 1) := by decide +kernel
theorem dX12_does_46 : decode cX12_does 46 = .ok (.getfield 71, 3) := by decide +kernel
theorem dX12_does_49 : decode cX12_does 49 = .ok (.iconst 0, 1) := by decide +kernel
theorem dX12_does_50 : decode cX12_does 50 = .ok (.iaload, 1) := by decide +kernel
theorem dX12_does_51 : decode cX12_does 51 = .ok (.aload_n 0, 1) := by decide +kernel
theorem dX12_does_52 : decode cX12_does 52 = .ok (.getfield 77, 3) := by decide +kernel
theorem dX12_does_55 : decode cX12_does 55 = .ok (.iconst 0, 1) := by decide +kernel
theorem dX12_does_56 : decode cX12_does 56 = .ok (.iaload, 1) := by decide +kernel
theorem dX12_does_57 : decode cX12_does 57 = .ok (.if_icmp .ge 17, 3) := by decide +kernel
theorem dX12_does_60 : decode cX12_does 60 = .ok (.iload_n 2, 1) := by decide +kernel
theorem dX12_does_61 : decode cX12_does 61 = .ok (.aload_n 0, 1) := by decide +kernel
theorem dX12_does_62 : decode cX12_does 62 = .ok (.getfield 71, 3) := by decide +kernel
theorem dX12_does_65 : decode cX12_does 65 = .ok (.iconst 0, 1) := by decide +kernel
theorem dX12_does_66 : decode cX12_does 66 = .ok (.iaload, 1) := by decide +kernel
theorem dX12_does_67 : decode cX12_does 67 = .ok (.if_icmp .ge 7, 3) := by decide +kernel
theorem dX12_does_70 : decode cX12_does 70 = .ok (.iconst 1, 1) := by decide +kernel
theorem dX12_does_71 : decode cX12_does 71 = .ok (.goto 4, 3) := by decide +kernel
theorem dX12_does_74 : decode cX12_does 74 = .ok (.iconst 0, 1) := by decide +kernel
theorem dX12_does_75 : decode cX12_does 75 = .ok (.istore 5, 2) := by decide +kernel
theorem dX12_does_77 : decode cX12_does 77 = .ok (.aload_n 0, 1) := by decide +kernel
theorem dX12_does_78 : decode cX12_does 78 = .ok (.dup, 1) := by decide +kernel
theorem dX12_does_79 : decode cX12_does 79 = .ok (.getfield 401, 3) := by decide +kernel
theorem dX12_does_82 : decode cX12_does 82 = .ok (.iload 5, 2) := by decide +kernel
theorem dX12_does_84 : decode cX12_does 84 = .ok (.ifCond .eq 12, 3) := by decide +kernel
theorem dX12_does_87 : decode cX12_does 87 = .ok (.aload_n 0, 1) := by decide +kernel
theorem dX12_does_88 : decode cX12_does 88 = .ok (.getfield 68, 3) := by decide +kernel
theorem dX12_does_91 : decode cX12_does 91 = .ok (.iconst 0, 1) := by decide +kernel
theorem dX12_does_92 : decode cX12_does 92 = .ok (.iaload, 1) := by decide +kernel
theorem dX12_does_93 : decode cX12_does 93 = .ok (.goto 4, 3) := by decide +kernel
theorem dX12_does_96 : decode cX12_does 96 = .ok (.iconst 0, 1) := by decide +kernel
theorem dX12_does_97 : decode cX12_does 97 = .ok (.iadd, 1) := by decide +kernel
theorem dX12_does_98 : decode cX12_does 98 = .ok (.putfield 401, 3) := by decide +kernel
theorem dX12_does_101 : decode cX12_does 101 = .ok (.aload_n 0, 1) := by decide +kernel
theorem dX12_does_102 : decode cX12_does 102 = .ok (.aload_n 0, 1) := by decide +kernel
theorem dX12_does_103 : decode cX12_does 103 = .ok (.getfield 404, 3) := by decide +kernel
theorem dX12_does_106 : decode cX12_does 106 = .ok (.ifCond .ne 8, 3) := by decide +kernel
theorem dX12_does_109 : decode cX12_does 109 = .ok (.iload 5, 2) := by decide +kernel
theorem dX12_does_111 : decode cX12_does 111 = .ok (.ifCond .eq 7, 3) := by decide +kernel
theorem dX12_does_114 : decode cX12_does 114 = .ok (.iconst 1, 1) := by decide +kernel
theorem dX12_does_115 : decode cX12_does 115 = .ok (.goto 4, 3) := by decide +kernel
theorem dX12_does_118 : decode cX12_does 118 = .ok (.iconst 0, 1) := by decide +kernel
theorem dX12_does_119 : decode cX12_does 119 = .ok (.putfield 404, 3) := by decide +kernel
theorem dX12_does_122 : decode cX12_does 122 = .ok (.iload 5, 2) := by decide +kernel
theorem dX12_does_124 : decode cX12_does 124 = .ok (.ireturn, 1) := by decide +kernel
theorem dX12_does_125 : decode cX12_does 125 = .ok (.iload 4, 2) := by decide +kernel
theorem dX12_does_127 : decode cX12_does 127 = .ok (.ifCond .ne 12, 3) := by decide +kernel
theorem dX12_does_130 : decode cX12_does 130 = .ok (.aload_n 0, 1) := by decide +kernel
theorem dX12_does_131 : decode cX12_does 131 = .ok (.iload_n 3, 1) := by decide +kernel
theorem dX12_does_132 : decode cX12_does 132 = .ok (.iload_n 2, 1) := by decide +kernel
theorem dX12_does_133 : decode cX12_does 133 = .ok (.invokevirtual 417, 3) := by decide +kernel
theorem dX12_does_136 : decode cX12_does 136 = .ok (.goto 23, 3) := by decide +kernel
theorem dX12_does_139 : decode cX12_does 139 = .ok (.iload 4, 2) := by decide +kernel
theorem dX12_does_141 : decode cX12_does 141 = .ok (.iconst 3, 1) := by decide +kernel
theorem dX12_does_142 : decode cX12_does 142 = .ok (.if_icmp .ne 16, 3) := by decide +kernel
theorem dX12_does_145 : decode cX12_does 145 = .ok (.aload_n 0, 1) := by decide +kernel
theorem dX12_does_146 : decode cX12_does 146 = .ok (.iload_n 3, 1) := by decide +kernel
theorem dX12_does_147 : decode cX12_does 147 = .ok (.iload_n 2, 1) := by decide +kernel
theorem dX12_does_148 : decode cX12_does 148 = .ok (.invokevirtual 417, 3) := by decide +kernel
theorem dX12_does_151 : decode cX12_does 151 = .ok (.iconst 1, 1) := by decide +kernel
theorem dX12_does_152 : decode cX12_does 152 = .ok (.iadd, 1) := by decide +kernel
theorem dX12_does_153 : decode cX12_does 153 = .ok (.iconst 2, 1) := by decide +kernel
theorem dX12_does_154 : decode cX12_does 154 = .ok (.idiv, 1) := by decide +kernel
theorem dX12_does_155 : decode cX12_does 155 = .ok (.goto 4, 3) := by decide +kernel
theorem dX12_does_158 : decode cX12_does 158 = .ok (.iconst 0, 1) := by decide +kernel
theorem dX12_does_159 : decode cX12_does 159 = .ok (.istore 5, 2) := by decide +kernel
theorem dX12_does_161 : decode cX12_does 161 = .ok (.aload_n 0, 1) := by decide +kernel
theorem dX12_does_162 : decode cX12_does 162 = .ok (.getfield 96, 3) := by decide +kernel
theorem dX12_does_165 : decode cX12_does 165 = .ok (.iload_n 3, 1) := by decide +kernel
theorem dX12_does_166 : decode cX12_does 166 = .ok (.iaload, 1) := by decide +kernel
theorem dX12_does_167 : decode cX12_does 167 = .ok (.iload 4, 2) := by decide +kernel
theorem dX12_does_169 : decode cX12_does 169 = .ok (.iconst 1, 1) := by decide +kernel
theorem dX12_does_170 : decode cX12_does 170 = .ok (.if_icmp .ne 7, 3) := by decide +kernel
theorem dX12_does_173 : decode cX12_does 173 = .ok (.iconst 1, 1) := by decide +kernel
theorem dX12_does_174 : decode cX12_does 174 = .ok (.goto 4, 3) := by decide +kernel
theorem dX12_does_177 : decode cX12_does 177 = .ok (.iconst 0, 1) := by decide +kernel
theorem dX12_does_178 : decode cX12_does 178 = .ok (.if_icmp .ne 27, 3) := by decide +kernel
theorem dX12_does_181 : decode cX12_does 181 = .ok (.iload 5, 2) := by decide +kernel
theorem dX12_does_183 : decode cX12_does 183 = .ok (.aload_n 0, 1) := by decide +kernel
theorem dX12_does_184 : decode cX12_does 184 = .ok (.getfield 401, 3) := by decide +kernel
theorem dX12_does_187 : decode cX12_does 187 = .ok (.if_icmp .gt 18, 3) := by decide +kernel
theorem dX12_does_190 : decode cX12_does 190 = .ok (.iload 4, 2) := by decide +kernel
theorem dX12_does_192 : decode cX12_does 192 = .ok (.iconst 3, 1) := by decide +kernel
theorem dX12_does_193 : decode cX12_does 193 = .ok (.if_icmp .ne 14, 3) := by decide +kernel
theorem dX12_does_196 : decode cX12_does 196 = .ok (.aload_n 0, 1) := by decide +kernel
theorem dX12_does_197 : decode cX12_does 197 = .ok (.getfield 114, 3) := by decide +kernel
theorem dX12_does_200 : decode cX12_does 200 = .ok (.iload_n 3, 1) := by decide +kernel
theorem dX12_does_201 : decode cX12_does 201 = .ok (.baload, 1) := by decide +kernel
theorem dX12_does_202 : decode cX12_does 202 = .ok (.ifCond .eq 5, 3) := by decide +kernel
theorem dX12_does_205 : decode cX12_does 205 = .ok (.iconst 0, 1) := by decide +kernel
theorem dX12_does_206 : decode cX12_does 206 = .ok (.ireturn, 1) := by decide +kernel
theorem dX12_does_207 : decode cX12_does 207 = .ok (.aload_n 0, 1) := by decide +kernel
theorem dX12_does_208 : decode cX12_does 208 = .ok (.dup, 1) := by decide +kernel
theorem dX12_does_209 : decode cX12_does 209 = .ok (.getfield 401, 3) := by decide +kernel
theorem dX12_does_212 : decode cX12_does 212 = .ok (.iload 5, 2) := by decide +kernel
theorem dX12_does_214 : decode cX12_does 214 = .ok (.isub, 1) := by decide +kernel
theorem dX12_does_215 : decode cX12_does 215 = .ok (.putfield 401, 3) := by decide +kernel
theorem dX12_does_218 : decode cX12_does 218 = .ok (.aload_n 0, 1) := by decide +kernel
theorem dX12_does_219 : decode cX12_does 219 = .ok (.dup, 1) := by decide +kernel
theorem dX12_does_220 : decode cX12_does 220 = .ok (.getfield 401, 3) := by decide +kernel
theorem dX12_does_223 : decode cX12_does 223 = .ok (.iload 4, 2) := by decide +kernel
theorem dX12_does_225 : decode cX12_does 225 = .ok (.iconst 1, 1) := by decide +kernel
theorem dX12_does_226 : decode cX12_does 226 = .ok (.if_icmp .ne 12, 3) := by decide +kernel
theorem dX12_does_229 : decode cX12_does 229 = .ok (.aload_n 0, 1) := by decide +kernel
theorem dX12_does_230 : decode cX12_does 230 = .ok (.getfield 56, 3) := by decide +kernel
theorem dX12_does_233 : decode cX12_does 233 = .ok (.iload_n 3, 1) := by decide +kernel
theorem dX12_does_234 : decode cX12_does 234 = .ok (.iaload, 1) := by decide +kernel
theorem dX12_does_235 : decode cX12_does 235 = .ok (.goto 19, 3) := by decide +kernel
theorem dX12_does_238 : decode cX12_does 238 = .ok (.iload 4, 2) := by decide +kernel
theorem dX12_does_240 : decode cX12_does 240 = .ok (.iconst 2, 1) := by decide +kernel
theorem dX12_does_241 : decode cX12_does 241 = .ok (.if_icmp .ne 12, 3) := by decide +kernel
theorem dX12_does_244 : decode cX12_does 244 = .ok (.aload_n 0, 1) := by decide +kernel
theorem dX12_does_245 : decode cX12_does 245 = .ok (.getfield 59, 3) := by decide +kernel
theorem dX12_does_248 : decode cX12_does 248 = .ok (.iload_n 3, 1) := by decide +kernel
theorem dX12_does_249 : decode cX12_does 249 = .ok (.iaload, 1) := by decide +kernel
theorem dX12_does_250 : decode cX12_does 250 = .ok (.goto 4, 3) := by decide +kernel
theorem dX12_does_253 : decode cX12_does 253 = .ok (.iconst 0, 1) := by decide +kernel
theorem dX12_does_254 : decode cX12_does 254 = .ok (.iadd, 1) := by decide +kernel
theorem dX12_does_255 : decode cX12_does 255 = .ok (.putfield 401, 3) := by decide +kernel
theorem dX12_does_258 : decode cX12_does 258 = .ok (.aload_n 0, 1) := by decide +kernel
theorem dX12_does_259 : decode cX12_does 259 = .ok (.getfield 96, 3) := by decide +kernel
theorem dX12_does_262 : decode cX12_does 262 = .ok (.iload_n 3, 1) := by decide +kernel
theorem dX12_does_263 : decode cX12_does 263 = .ok (.iload 4, 2) := by decide +kernel
theorem dX12_does_265 : decode cX12_does 265 = .ok (.ifCond .ne 7, 3) := by decide +kernel
theorem dX12_does_268 : decode cX12_does 268 = .ok (.iconst 1, 1) := by decide +kernel
theorem dX12_does_269 : decode cX12_does 269 = .ok (.goto 14, 3) := by decide +kernel
theorem dX12_does_272 : decode cX12_does 272 = .ok (.iload 4, 2) := by decide +kernel
theorem dX12_does_274 : decode cX12_does 274 = .ok (.iconst 2, 1) := by decide +kernel
theorem dX12_does_275 : decode cX12_does 275 = .ok (.if_icmp .ne 7, 3) := by decide +kernel
theorem dX12_does_278 : decode cX12_does 278 = .ok (.iconst 2, 1) := by decide +kernel
theorem dX12_does_279 : decode cX12_does 279 = .ok (.goto 4, 3) := by decide +kernel
theorem dX12_does_282 : decode cX12_does 282 = .ok (.iconst 0, 1) := by decide +kernel
theorem dX12_does_283 : decode cX12_does 283 = .ok (.iastore, 1) := by decide +kernel
theorem dX12_does_284 : decode cX12_does 284 = .ok (.iload 4, 2) := by decide +kernel
theorem dX12_does_286 : decode cX12_does 286 = .ok (.iconst 1, 1) := by decide +kernel
theorem dX12_does_287 : decode cX12_does 287 = .ok (.if_icmp .ne 44, 3) := by decide +kernel
theorem dX12_does_290 : decode cX12_does 290 = .ok (.aload_n 0, 1) := by decide +kernel
theorem dX12_does_291 : decode cX12_does 291 = .ok (.getfield 99, 3) := by decide +kernel
theorem dX12_does_294 : decode cX12_does 294 = .ok (.iload_n 3, 1) := by decide +kernel
theorem dX12_does_295 : decode cX12_does 295 = .ok (.aload_n 0, 1) := by decide +kernel
theorem dX12_does_296 : decode cX12_does 296 = .ok (.getfield 56, 3) := by decide +kernel
theorem dX12_does_299 : decode cX12_does 299 = .ok (.iload_n 3, 1) := by decide +kernel
theorem dX12_does_300 : decode cX12_does 300 = .ok (.iaload, 1) := by decide +kernel
theorem dX12_does_301 : decode cX12_does 301 = .ok (.iastore, 1) := by decide +kernel
theorem dX12_does_302 : decode cX12_does 302 = .ok (.aload_n 0, 1) := by decide +kernel
theorem dX12_does_303 : decode cX12_does 303 = .ok (.getfield 102, 3) := by decide +kernel
theorem dX12_does_306 : decode cX12_does 306 = .ok (.iload_n 3, 1) := by decide +kernel
theorem dX12_does_307 : decode cX12_does 307 = .ok (.aload_n 0, 1) := by decide +kernel
theorem dX12_does_308 : decode cX12_does 308 = .ok (.getfield 50, 3) := by decide +kernel
theorem dX12_does_311 : decode cX12_does 311 = .ok (.iload_n 3, 1) := by decide +kernel
theorem dX12_does_312 : decode cX12_does 312 = .ok (.iaload, 1) := by decide +kernel
theorem dX12_does_313 : decode cX12_does 313 = .ok (.iastore, 1) := by decide +kernel
theorem dX12_does_314 : decode cX12_does 314 = .ok (.aload_n 0, 1) := by decide +kernel
theorem dX12_does_315 : decode cX12_does 315 = .ok (.getfield 105, 3) := by decide +kernel
theorem dX12_does_318 : decode cX12_does 318 = .ok (.iload_n 3, 1) := by decide +kernel
theorem dX12_does_319 : decode cX12_does 319 = .ok (.iload_n 2, 1) := by decide +kernel
theorem dX12_does_320 : decode cX12_does 320 = .ok (.iastore, 1) := by decide +kernel
theorem dX12_does_321 : decode cX12_does 321 = .ok (.aload_n 0, 1) := by decide +kernel
theorem dX12_does_322 : decode cX12_does 322 = .ok (.getfield 114, 3) := by decide +kernel
theorem dX12_does_325 : decode cX12_does 325 = .ok (.iload_n 3, 1) := by decide +kernel
theorem dX12_does_326 : decode cX12_does 326 = .ok (.iconst 0, 1) := by decide +kernel
theorem dX12_does_327 : decode cX12_does 327 = .ok (.bastore, 1) := by decide +kernel
theorem dX12_does_328 : decode cX12_does 328 = .ok (.goto 48, 3) := by decide +kernel
theorem dX12_does_331 : decode cX12_does 331 = .ok (.iload 4, 2) := by decide +kernel
theorem dX12_does_333 : decode cX12_does 333 = .ok (.iconst 3, 1) := by decide +kernel
theorem dX12_does_334 : decode cX12_does 334 = .ok (.if_icmp .ne 42, 3) := by decide +kernel
theorem dX12_does_337 : decode cX12_does 337 = .ok (.aload_n 0, 1) := by decide +kernel
theorem dX12_does_338 : decode cX12_does 338 = .ok (.getfield 99, 3) := by decide +kernel
theorem dX12_does_341 : decode cX12_does 341 = .ok (.iload_n 3, 1) := by decide +kernel
theorem dX12_does_342 : decode cX12_does 342 = .ok (.aload_n 0, 1) := by decide +kernel
theorem dX12_does_343 : decode cX12_does 343 = .ok (.iload_n 3, 1) := by decide +kernel
theorem dX12_does_344 : decode cX12_does 344 = .ok (.iload_n 2, 1) := by decide +kernel
theorem dX12_does_345 : decode cX12_does 345 = .ok (.invokevirtual 417, 3) := by decide +kernel
theorem dX12_does_348 : decode cX12_does 348 = .ok (.iload 5, 2) := by decide +kernel
theorem dX12_does_350 : decode cX12_does 350 = .ok (.isub, 1) := by decide +kernel
theorem dX12_does_351 : decode cX12_does 351 = .ok (.iastore, 1) := by decide +kernel
theorem dX12_does_352 : decode cX12_does 352 = .ok (.aload_n 0, 1) := by decide +kernel
theorem dX12_does_353 : decode cX12_does 353 = .ok (.getfield 102, 3) := by decide +kernel
theorem dX12_does_356 : decode cX12_does 356 = .ok (.iload_n 3, 1) := by decide +kernel
theorem dX12_does_357 : decode cX12_does 357 = .ok (.dup2, 1) := by decide +kernel
theorem dX12_does_358 : decode cX12_does 358 = .ok (.iaload, 1) := by decide +kernel
theorem dX12_does_359 : decode cX12_does 359 = .ok (.iconst 2, 1) := by decide +kernel
theorem dX12_does_360 : decode cX12_does 360 = .ok (.idiv, 1) := by decide +kernel
theorem dX12_does_361 : decode cX12_does 361 = .ok (.iastore, 1) := by decide +kernel
theorem dX12_does_362 : decode cX12_does 362 = .ok (.aload_n 0, 1) := by decide +kernel
theorem dX12_does_363 : decode cX12_does 363 = .ok (.getfield 105, 3) := by decide +kernel
theorem dX12_does_366 : decode cX12_does 366 = .ok (.iload_n 3, 1) := by decide +kernel
theorem dX12_does_367 : decode cX12_does 367 = .ok (.iload_n 2, 1) := by decide +kernel
theorem dX12_does_368 : decode cX12_does 368 = .ok (.iastore, 1) := by decide +kernel
theorem dX12_does_369 : decode cX12_does 369 = .ok (.aload_n 0, 1) := by decide +kernel
theorem dX12_does_370 : decode cX12_does 370 = .ok (.getfield 114, 3) := by decide +kernel
theorem dX12_does_373 : decode cX12_does 373 = .ok (.iload_n 3, 1) := by decide +kernel
theorem dX12_does_374 : decode cX12_does 374 = .ok (.iconst 1, 1) := by decide +kernel
theorem dX12_does_375 : decode cX12_does 375 = .ok (.bastore, 1) := by decide +kernel
theorem dX12_does_376 : decode cX12_does 376 = .ok (.iconst 1, 1) := by decide +kernel
theorem dX12_does_377 : decode cX12_does 377 = .ok (.ireturn, 1) := by decide +kernel
theorem dX12_ends_0 : decode cX12_ends 0 = .ok (.aload_n 0, 1) := by decide +kernel
theorem dX12_ends_1 : decode cX12_ends 1 = .ok (.iconst 1, 1) := by decide +kernel
theorem dX12_ends_2 : decode cX12_ends 2 = .ok (.invokevirtual 420, 3) := by decide +kernel
theorem dX12_ends_5 : decode cX12_ends 5 = .ok (.istore_n 3, 1) := by decide +kernel
theorem dX12_ends_6 : decode cX12_ends 6 = .ok (.aload_n 0, 1) := by decide +kernel
theorem dX12_ends_7 : decode cX12_ends 7 = .ok (.iconst 0, 1) := by decide +kernel
theorem dX12_ends_8 : decode cX12_ends 8 = .ok (.invokevirtual 420, 3) := by decide +kernel
theorem dX12_ends_11 : decode cX12_ends 11 = .ok (.istore 4, 2) := by decide +kernel
theorem dX12_ends_13 : decode cX12_ends 13 = .ok (.aload_n 0, 1) := by decide +kernel
theorem dX12_ends_14 : decode cX12_ends 14 = .ok (.dup, 1) := by decide +kernel
theorem dX12_ends_15 : decode cX12_ends 15 = .ok (.getfield 401, 3) := by decide +kernel
theorem dX12_ends_18 : decode cX12_ends 18 = .ok (.iload_n 2, 1) := by decide +kernel
theorem dX12_ends_19 : decode cX12_ends 19 = .ok (.ifCond .eq 15, 3) := by decide +kernel
theorem dX12_ends_22 : decode cX12_ends 22 = .ok (.aload_n 0, 1) := by decide +kernel
theorem dX12_ends_23 : decode cX12_ends 23 = .ok (.iconst 1, 1) := by decide +kernel
theorem dX12_ends_24 : decode cX12_ends 24 = .ok (.iload_n 3, 1) := by decide +kernel
theorem dX12_ends_25 : decode cX12_ends 25 = .ok (.iload 4, 2) := by decide +kernel
theorem dX12_ends_27 : decode cX12_ends 27 = .ok (.iload_n 1, 1) := by decide +kernel
theorem dX12_ends_28 : decode cX12_ends 28 = .ok (.invokevirtual 395, 3) := by decide +kernel
theorem dX12_ends_31 : decode cX12_ends 31 = .ok (.goto 4, 3) := by decide +kernel
theorem dX12_ends_34 : decode cX12_ends 34 = .ok (.iconst 0, 1) := by decide +kernel
theorem dX12_ends_35 : decode cX12_ends 35 = .ok (.iadd, 1) := by decide +kernel
theorem dX12_ends_36 : decode cX12_ends 36 = .ok (.putfield 401, 3) := by decide +kernel
theorem dX12_ends_39 : decode cX12_ends 39 = .ok (.aload_n 0, 1) := by decide +kernel
theorem dX12_ends_40 : decode cX12_ends 40 = .ok (.iconst 2, 1) := by decide +kernel
theorem dX12_ends_41 : decode cX12_ends 41 = .ok (.iload_n 3, 1) := by decide +kernel
theorem dX12_ends_42 : decode cX12_ends 42 = .ok (.iload 4, 2) := by decide +kernel
theorem dX12_ends_44 : decode cX12_ends 44 = .ok (.iload_n 1, 1) := by decide +kernel
theorem dX12_ends_45 : decode cX12_ends 45 = .ok (.invokevirtual 395, 3) := by decide +kernel
theorem dX12_ends_48 : decode cX12_ends 48 = .ok (.istore 5, 2) := by decide +kernel
theorem dX12_ends_50 : decode cX12_ends 50 = .ok (.iload 5, 2) := by decide +kernel
theorem dX12_ends_52 : decode cX12_ends 52 = .ok (.aload_n 0, 1) := by decide +kernel
theorem dX12_ends_53 : decode cX12_ends 53 = .ok (.getfield 401, 3) := by decide +kernel
theorem dX12_ends_56 : decode cX12_ends 56 = .ok (.if_icmp .le 10, 3) := by decide +kernel
theorem dX12_ends_59 : decode cX12_ends 59 = .ok (.aload_n 0, 1) := by decide +kernel
theorem dX12_ends_60 : decode cX12_ends 60 = .ok (.iload_n 1, 1) := by decide +kernel
theorem dX12_ends_61 : decode cX12_ends 61 = .ok (.putfield 411, 3) := by decide +kernel
theorem dX12_ends_64 : decode cX12_ends 64 = .ok (.iconst 0, 1) := by decide +kernel
theorem dX12_ends_65 : decode cX12_ends 65 = .ok (.ireturn, 1) := by decide +kernel
theorem dX12_ends_66 : decode cX12_ends 66 = .ok (.aload_n 0, 1) := by decide +kernel
theorem dX12_ends_67 : decode cX12_ends 67 = .ok (.dup, 1) := by decide +kernel
theorem dX12_ends_68 : decode cX12_ends 68 = .ok (.getfield 401, 3) := by decide +kernel
theorem dX12_ends_71 : decode cX12_ends 71 = .ok (.iload 5, 2) := by decide +kernel
theorem dX12_ends_73 : decode cX12_ends 73 = .ok (.isub, 1) := by decide +kernel
theorem dX12_ends_74 : decode cX12_ends 74 = .ok (.putfield 401, 3) := by decide +kernel
theorem dX12_ends_77 : decode cX12_ends 77 = .ok (.iconst 1, 1) := by decide +kernel
theorem dX12_ends_78 : decode cX12_ends 78 = .ok (.ireturn, 1) := by decide +kernel
theorem dX12_works_0 : decode cX12_works 0 = .ok (.iload_n 1, 1) := by decide +kernel
theorem dX12_works_1 : decode cX12_works 1 = .ok (.iconst 1, 1) := by decide +kernel
theorem dX12_works_2 : decode cX12_works 2 = .ok (.if_icmp .ne 52, 3) := by decide +kernel
theorem dX12_works_5 : decode cX12_works 5 = .ok (.aload_n 0, 1) := by decide +kernel
theorem dX12_works_6 : decode cX12_works 6 = .ok (.aload_n 0, 1) := by decide +kernel
theorem dX12_works_7 : decode cX12_works 7 = .ok (.getfield 423, 3) := by decide +kernel
theorem dX12_works_10 : decode cX12_works 10 = .ok (.ldc2_w 427, 3) := by decide +kernel
theorem dX12_works_13 : decode cX12_works 13 = .ok (.lmul, 1) := by decide +kernel
theorem dX12_works_14 : decode cX12_works 14 = .ok (.ldc2_w 429, 3) := by decide +kernel
theorem dX12_works_17 : decode cX12_works 17 = .ok (.ladd, 1) := by decide +kernel
theorem dX12_works_18 : decode cX12_works 18 = .ok (.ldc2_w 431, 3) := by decide +kernel
theorem dX12_works_21 : decode cX12_works 21 = .ok (.lrem, 1) := by decide +kernel
theorem dX12_works_22 : decode cX12_works 22 = .ok (.putfield 423, 3) := by decide +kernel
theorem dX12_works_25 : decode cX12_works 25 = .ok (.aload_n 0, 1) := by decide +kernel
theorem dX12_works_26 : decode cX12_works 26 = .ok (.getfield 423, 3) := by decide +kernel
theorem dX12_works_29 : decode cX12_works 29 = .ok (.ldc2_w 433, 3) := by decide +kernel
theorem dX12_works_32 : decode cX12_works 32 = .ok (.ldiv, 1) := by decide +kernel
theorem dX12_works_33 : decode cX12_works 33 = .ok (.ldc2_w 435, 3) := by decide +kernel
theorem dX12_works_36 : decode cX12_works 36 = .ok (.lrem, 1) := by decide +kernel
theorem dX12_works_37 : decode cX12_works 37 = .ok (.aload_n 0, 1) := by decide +kernel
theorem dX12_works_38 : decode cX12_works 38 = .ok (.getfield 65, 3) := by decide +kernel
theorem dX12_works_41 : decode cX12_works 41 = .ok (.iconst 0, 1) := by decide +kernel
theorem dX12_works_42 : decode cX12_works 42 = .ok (.iaload, 1) := by decide +kernel
theorem dX12_works_43 : decode cX12_works 43 = .ok (.i2l, 1) := by decide +kernel
theorem dX12_works_44 : decode cX12_works 44 = .ok (.lcmp, 1) := by decide +kernel
theorem dX12_works_45 : decode cX12_works 45 = .ok (.ifCond .ge 7, 3) := by decide +kernel
theorem dX12_works_48 : decode cX12_works 48 = .ok (.iconst 1, 1) := by decide +kernel
theorem dX12_works_49 : decode cX12_works 49 = .ok (.goto 4, 3) := by decide +kernel
theorem dX12_works_52 : decode cX12_works 52 = .ok (.iconst 0, 1) := by decide +kernel
theorem dX12_works_53 : decode cX12_works 53 = .ok (.ireturn, 1) := by decide +kernel
theorem dX12_works_54 : decode cX12_works 54 = .ok (.iload_n 1, 1) := by decide +kernel
theorem dX12_works_55 : decode cX12_works 55 = .ok (.ifCond .eq 12, 3) := by decide +kernel
theorem dX12_works_58 : decode cX12_works 58 = .ok (.iload_n 2, 1) := by decide +kernel
theorem dX12_works_59 : decode cX12_works 59 = .ok (.iload_n 3, 1) := by decide +kernel
theorem dX12_works_60 : decode cX12_works 60 = .ok (.ishr, 1) := by decide +kernel
theorem dX12_works_61 : decode cX12_works 61 = .ok (.iconst 1, 1) := by decide +kernel
theorem dX12_works_62 : decode cX12_works 62 = .ok (.iand, 1) := by decide +kernel
theorem dX12_works_63 : decode cX12_works 63 = .ok (.iconst 1, 1) := by decide +kernel
theorem dX12_works_64 : decode cX12_works 64 = .ok (.if_icmp .ne 7, 3) := by decide +kernel
theorem dX12_works_67 : decode cX12_works 67 = .ok (.iconst 1, 1) := by decide +kernel
theorem dX12_works_68 : decode cX12_works 68 = .ok (.goto 4, 3) := by decide +kernel
theorem dX12_works_71 : decode cX12_works 71 = .ok (.iconst 0, 1) := by decide +kernel
theorem dX12_works_72 : decode cX12_works 72 = .ok (.ireturn, 1) := by decide +kernel
theorem dX12_goesBy_0 : decode cX12_goesBy 0 = .ok (.aload_n 0, 1) := by decide +kernel
theorem dX12_goesBy_1 : decode cX12_goesBy 1 = .ok (.invokevirtual 437, 3) := by decide +kernel
theorem dX12_goesBy_4 : decode cX12_goesBy 4 = .ok (.iconst 0, 1) := by decide +kernel
theorem dX12_goesBy_5 : decode cX12_goesBy 5 = .ok (.istore_n 3, 1) := by decide +kernel
theorem dX12_goesBy_6 : decode cX12_goesBy 6 = .ok (.iconst 0, 1) := by decide +kernel
theorem dX12_goesBy_7 : decode cX12_goesBy 7 = .ok (.istore 4, 2) := by decide +kernel
theorem dX12_goesBy_9 : decode cX12_goesBy 9 = .ok (.iload 4, 2) := by decide +kernel
theorem dX12_goesBy_11 : decode cX12_goesBy 11 = .ok (.aload_n 0, 1) := by decide +kernel
theorem dX12_goesBy_12 : decode cX12_goesBy 12 = .ok (.getfield 77, 3) := by decide +kernel
theorem dX12_goesBy_15 : decode cX12_goesBy 15 = .ok (.iconst 0, 1) := by decide +kernel
theorem dX12_goesBy_16 : decode cX12_goesBy 16 = .ok (.iaload, 1) := by decide +kernel
theorem dX12_goesBy_17 : decode cX12_goesBy 17 = .ok (.if_icmp .ge 227, 3) := by decide +kernel
theorem dX12_goesBy_20 : decode cX12_goesBy 20 = .ok (.aload_n 0, 1) := by decide +kernel
theorem dX12_goesBy_21 : decode cX12_goesBy 21 = .ok (.iload_n 1, 1) := by decide +kernel
theorem dX12_goesBy_22 : decode cX12_goesBy 22 = .ok (.iload_n 2, 1) := by decide +kernel
theorem dX12_goesBy_23 : decode cX12_goesBy 23 = .ok (.iload 4, 2) := by decide +kernel
theorem dX12_goesBy_25 : decode cX12_goesBy 25 = .ok (.invokevirtual 440, 3) := by decide +kernel
theorem dX12_goesBy_28 : decode cX12_goesBy 28 = .ok (.istore 5, 2) := by decide +kernel
theorem dX12_goesBy_30 : decode cX12_goesBy 30 = .ok (.aload_n 0, 1) := by decide +kernel
theorem dX12_goesBy_31 : decode cX12_goesBy 31 = .ok (.getfield 408, 3) := by decide +kernel
theorem dX12_goesBy_34 : decode cX12_goesBy 34 = .ok (.iconst (-1), 1) := by decide +kernel
theorem dX12_goesBy_35 : decode cX12_goesBy 35 = .ok (.if_icmp .ne 203, 3) := by decide +kernel
theorem dX12_goesBy_38 : decode cX12_goesBy 38 = .ok (.aload_n 0, 1) := by decide +kernel
theorem dX12_goesBy_39 : decode cX12_goesBy 39 = .ok (.getfield 411, 3) := by decide +kernel
theorem dX12_goesBy_42 : decode cX12_goesBy 42 = .ok (.iconst (-1), 1) := by decide +kernel
theorem dX12_goesBy_43 : decode cX12_goesBy 43 = .ok (.if_icmp .ne 195, 3) := by decide +kernel
theorem dX12_goesBy_46 : decode cX12_goesBy 46 = .ok (.aload_n 0, 1) := by decide +kernel
theorem dX12_goesBy_47 : decode cX12_goesBy 47 = .ok (.iload 4, 2) := by decide +kernel
theorem dX12_goesBy_49 : decode cX12_goesBy 49 = .ok (.invokevirtual 444, 3) := by decide +kernel
theorem dX12_goesBy_52 : decode cX12_goesBy 52 = .ok (.aload_n 0, 1) := by decide +kernel
theorem dX12_goesBy_53 : decode cX12_goesBy 53 = .ok (.getfield 404, 3) := by decide +kernel
theorem dX12_goesBy_56 : decode cX12_goesBy 56 = .ok (.ifCond .eq 64, 3) := by decide +kernel
theorem dX12_goesBy_59 : decode cX12_goesBy 59 = .ok (.iload 4, 2) := by decide +kernel
theorem dX12_goesBy_61 : decode cX12_goesBy 61 = .ok (.aload_n 0, 1) := by decide +kernel
theorem dX12_goesBy_62 : decode cX12_goesBy 62 = .ok (.getfield 71, 3) := by decide +kernel
theorem dX12_goesBy_65 : decode cX12_goesBy 65 = .ok (.iconst 0, 1) := by decide +kernel
theorem dX12_goesBy_66 : decode cX12_goesBy 66 = .ok (.iaload, 1) := by decide +kernel
theorem dX12_goesBy_67 : decode cX12_goesBy 67 = .ok (.if_icmp .ne 53, 3) := by decide +kernel
theorem dX12_goesBy_70 : decode cX12_goesBy 70 = .ok (.aload_n 0, 1) := by decide +kernel
theorem dX12_goesBy_71 : decode cX12_goesBy 71 = .ok (.aload_n 0, 1) := by decide +kernel
theorem dX12_goesBy_72 : decode cX12_goesBy 72 = .ok (.getfield 401, 3) := by decide +kernel
theorem dX12_goesBy_75 : decode cX12_goesBy 75 = .ok (.aload_n 0, 1) := by decide +kernel
theorem dX12_goesBy_76 : decode cX12_goesBy 76 = .ok (.getfield 68, 3) := by decide +kernel
theorem dX12_goesBy_79 : decode cX12_goesBy 79 = .ok (.iconst 0, 1) := by decide +kernel
theorem dX12_goesBy_80 : decode cX12_goesBy 80 = .ok (.iaload, 1) := by decide +kernel
theorem dX12_goesBy_81 : decode cX12_goesBy 81 = .ok (.if_icmp .ge 8, 3) := by decide +kernel
theorem dX12_goesBy_84 : decode cX12_goesBy 84 = .ok (.iload 4, 2) := by decide +kernel
theorem dX12_goesBy_86 : decode cX12_goesBy 86 = .ok (.goto 4, 3) := by decide +kernel
theorem dX12_goesBy_89 : decode cX12_goesBy 89 = .ok (.iconst (-1), 1) := by decide +kernel
theorem dX12_goesBy_90 : decode cX12_goesBy 90 = .ok (.putfield 411, 3) := by decide +kernel
theorem dX12_goesBy_93 : decode cX12_goesBy 93 = .ok (.aload_n 0, 1) := by decide +kernel
theorem dX12_goesBy_94 : decode cX12_goesBy 94 = .ok (.dup, 1) := by decide +kernel
theorem dX12_goesBy_95 : decode cX12_goesBy 95 = .ok (.getfield 401, 3) := by decide +kernel
theorem dX12_goesBy_98 : decode cX12_goesBy 98 = .ok (.aload_n 0, 1) := by decide +kernel
theorem dX12_goesBy_99 : decode cX12_goesBy 99 = .ok (.getfield 411, 3) := by decide +kernel
theorem dX12_goesBy_102 : decode cX12_goesBy 102 = .ok (.iconst (-1), 1) := by decide +kernel
theorem dX12_goesBy_103 : decode cX12_goesBy 103 = .ok (.if_icmp .ne 12, 3) := by decide +kernel
theorem dX12_goesBy_106 : decode cX12_goesBy 106 = .ok (.aload_n 0, 1) := by decide +kernel
theorem dX12_goesBy_107 : decode cX12_goesBy 107 = .ok (.getfield 68, 3) := by decide +kernel
theorem dX12_goesBy_110 : decode cX12_goesBy 110 = .ok (.iconst 0, 1) := by decide +kernel
theorem dX12_goesBy_111 : decode cX12_goesBy 111 = .ok (.iaload, 1) := by decide +kernel
theorem dX12_goesBy_112 : decode cX12_goesBy 112 = .ok (.goto 4, 3) := by decide +kernel
theorem dX12_goesBy_115 : decode cX12_goesBy 115 = .ok (.iconst 0, 1) := by decide +kernel
theorem dX12_goesBy_116 : decode cX12_goesBy 116 = .ok (.isub, 1) := by decide +kernel
theorem dX12_goesBy_117 : decode cX12_goesBy 117 = .ok (.putfield 401, 3) := by decide +kernel
theorem dX12_goesBy_120 : decode cX12_goesBy 120 = .ok (.aload_n 0, 1) := by decide +kernel
theorem dX12_goesBy_121 : decode cX12_goesBy 121 = .ok (.getfield 411, 3) := by decide +kernel
theorem dX12_goesBy_124 : decode cX12_goesBy 124 = .ok (.iconst (-1), 1) := by decide +kernel
theorem dX12_goesBy_125 : decode cX12_goesBy 125 = .ok (.if_icmp .ne 53, 3) := by decide +kernel
theorem dX12_goesBy_128 : decode cX12_goesBy 128 = .ok (.aload_n 0, 1) := by decide +kernel
theorem dX12_goesBy_129 : decode cX12_goesBy 129 = .ok (.getfield 408, 3) := by decide +kernel
theorem dX12_goesBy_132 : decode cX12_goesBy 132 = .ok (.iconst (-1), 1) := by decide +kernel
theorem dX12_goesBy_133 : decode cX12_goesBy 133 = .ok (.if_icmp .ne 45, 3) := by decide +kernel
theorem dX12_goesBy_136 : decode cX12_goesBy 136 = .ok (.iload_n 3, 1) := by decide +kernel
theorem dX12_goesBy_137 : decode cX12_goesBy 137 = .ok (.aload_n 0, 1) := by decide +kernel
theorem dX12_goesBy_138 : decode cX12_goesBy 138 = .ok (.getfield 351, 3) := by decide +kernel
theorem dX12_goesBy_141 : decode cX12_goesBy 141 = .ok (.if_icmp .ge 37, 3) := by decide +kernel
theorem dX12_goesBy_144 : decode cX12_goesBy 144 = .ok (.aload_n 0, 1) := by decide +kernel
theorem dX12_goesBy_145 : decode cX12_goesBy 145 = .ok (.getfield 87, 3) := by decide +kernel
theorem dX12_goesBy_148 : decode cX12_goesBy 148 = .ok (.iload_n 3, 1) := by decide +kernel
theorem dX12_goesBy_149 : decode cX12_goesBy 149 = .ok (.iaload, 1) := by decide +kernel
theorem dX12_goesBy_150 : decode cX12_goesBy 150 = .ok (.iload 4, 2) := by decide +kernel
theorem dX12_goesBy_152 : decode cX12_goesBy 152 = .ok (.if_icmp .ne 26, 3) := by decide +kernel
theorem dX12_goesBy_155 : decode cX12_goesBy 155 = .ok (.aload_n 0, 1) := by decide +kernel
theorem dX12_goesBy_156 : decode cX12_goesBy 156 = .ok (.aload_n 0, 1) := by decide +kernel
theorem dX12_goesBy_157 : decode cX12_goesBy 157 = .ok (.iload_n 3, 1) := by decide +kernel
theorem dX12_goesBy_158 : decode cX12_goesBy 158 = .ok (.invokevirtual 447, 3) := by decide +kernel
theorem dX12_goesBy_161 : decode cX12_goesBy 161 = .ok (.ifCond .eq 7, 3) := by decide +kernel
theorem dX12_goesBy_164 : decode cX12_goesBy 164 = .ok (.iconst (-1), 1) := by decide +kernel
theorem dX12_goesBy_165 : decode cX12_goesBy 165 = .ok (.goto 4, 3) := by decide +kernel
theorem dX12_goesBy_168 : decode cX12_goesBy 168 = .ok (.iload_n 3, 1) := by decide +kernel
theorem dX12_goesBy_169 : decode cX12_goesBy 169 = .ok (.putfield 408, 3) := by decide +kernel
theorem dX12_goesBy_172 : decode cX12_goesBy 172 = .ok (.iinc 3 1, 3) := by decide +kernel
theorem dX12_goesBy_175 : decode cX12_goesBy 175 = .ok (.goto (-55), 3) := by decide +kernel
theorem dX12_goesBy_178 : decode cX12_goesBy 178 = .ok (.aload_n 0, 1) := by decide +kernel
theorem dX12_goesBy_179 : decode cX12_goesBy 179 = .ok (.getfield 411, 3) := by decide +kernel
theorem dX12_goesBy_182 : decode cX12_goesBy 182 = .ok (.iconst (-1), 1) := by decide +kernel
theorem dX12_goesBy_183 : decode cX12_goesBy 183 = .ok (.if_icmp .ne 55, 3) := by decide +kernel
theorem dX12_goesBy_186 : decode cX12_goesBy 186 = .ok (.aload_n 0, 1) := by decide +kernel
theorem dX12_goesBy_187 : decode cX12_goesBy 187 = .ok (.getfield 408, 3) := by decide +kernel
theorem dX12_goesBy_190 : decode cX12_goesBy 190 = .ok (.iconst (-1), 1) := by decide +kernel
theorem dX12_goesBy_191 : decode cX12_goesBy 191 = .ok (.if_icmp .ne 47, 3) := by decide +kernel
theorem dX12_goesBy_194 : decode cX12_goesBy 194 = .ok (.aload_n 0, 1) := by decide +kernel
theorem dX12_goesBy_195 : decode cX12_goesBy 195 = .ok (.iload 4, 2) := by decide +kernel
theorem dX12_goesBy_197 : decode cX12_goesBy 197 = .ok (.iload 5, 2) := by decide +kernel
theorem dX12_goesBy_199 : decode cX12_goesBy 199 = .ok (.invokevirtual 450, 3) := by decide +kernel
theorem dX12_goesBy_202 : decode cX12_goesBy 202 = .ok (.ifCond .eq 36, 3) := by decide +kernel
theorem dX12_goesBy_205 : decode cX12_goesBy 205 = .ok (.aload_n 0, 1) := by decide +kernel
theorem dX12_goesBy_206 : decode cX12_goesBy 206 = .ok (.getfield 108, 3) := by decide +kernel
theorem dX12_goesBy_209 : decode cX12_goesBy 209 = .ok (.iload 4, 2) := by decide +kernel
theorem dX12_goesBy_211 : decode cX12_goesBy 211 = .ok (.aload_n 0, 1) := by decide +kernel
theorem dX12_goesBy_212 : decode cX12_goesBy 212 = .ok (.getfield 401, 3) := by decide +kernel
theorem dX12_goesBy_215 : decode cX12_goesBy 215 = .ok (.iastore, 1) := by decide +kernel
theorem dX12_goesBy_216 : decode cX12_goesBy 216 = .ok (.aload_n 0, 1) := by decide +kernel
theorem dX12_goesBy_217 : decode cX12_goesBy 217 = .ok (.getfield 111, 3) := by decide +kernel
theorem dX12_goesBy_220 : decode cX12_goesBy 220 = .ok (.iload 4, 2) := by decide +kernel
theorem dX12_goesBy_222 : decode cX12_goesBy 222 = .ok (.aload_n 0, 1) := by decide +kernel
theorem dX12_goesBy_223 : decode cX12_goesBy 223 = .ok (.iconst 1, 1) := by decide +kernel
theorem dX12_goesBy_224 : decode cX12_goesBy 224 = .ok (.invokevirtual 420, 3) := by decide +kernel
theorem dX12_goesBy_227 : decode cX12_goesBy 227 = .ok (.iastore, 1) := by decide +kernel
theorem dX12_goesBy_228 : decode cX12_goesBy 228 = .ok (.aload_n 0, 1) := by decide +kernel
theorem dX12_goesBy_229 : decode cX12_goesBy 229 = .ok (.dup, 1) := by decide +kernel
theorem dX12_goesBy_230 : decode cX12_goesBy 230 = .ok (.getfield 414, 3) := by decide +kernel
theorem dX12_goesBy_233 : decode cX12_goesBy 233 = .ok (.iconst 1, 1) := by decide +kernel
theorem dX12_goesBy_234 : decode cX12_goesBy 234 = .ok (.iadd, 1) := by decide +kernel
theorem dX12_goesBy_235 : decode cX12_goesBy 235 = .ok (.putfield 414, 3) := by decide +kernel
theorem dX12_goesBy_238 : decode cX12_goesBy 238 = .ok (.iinc 4 1, 3) := by decide +kernel
theorem dX12_goesBy_241 : decode cX12_goesBy 241 = .ok (.goto (-232), 3) := by decide +kernel
theorem dX12_goesBy_244 : decode cX12_goesBy 244 = .ok (.aload_n 0, 1) := by decide +kernel
theorem dX12_goesBy_245 : decode cX12_goesBy 245 = .ok (.getfield 408, 3) := by decide +kernel
theorem dX12_goesBy_248 : decode cX12_goesBy 248 = .ok (.iconst (-1), 1) := by decide +kernel
theorem dX12_goesBy_249 : decode cX12_goesBy 249 = .ok (.if_icmp .ne 24, 3) := by decide +kernel
theorem dX12_goesBy_252 : decode cX12_goesBy 252 = .ok (.aload_n 0, 1) := by decide +kernel
theorem dX12_goesBy_253 : decode cX12_goesBy 253 = .ok (.getfield 411, 3) := by decide +kernel
theorem dX12_goesBy_256 : decode cX12_goesBy 256 = .ok (.iconst (-1), 1) := by decide +kernel
theorem dX12_goesBy_257 : decode cX12_goesBy 257 = .ok (.if_icmp .ne 16, 3) := by decide +kernel
theorem dX12_goesBy_260 : decode cX12_goesBy 260 = .ok (.iload_n 3, 1) := by decide +kernel
theorem dX12_goesBy_261 : decode cX12_goesBy 261 = .ok (.aload_n 0, 1) := by decide +kernel
theorem dX12_goesBy_262 : decode cX12_goesBy 262 = .ok (.getfield 351, 3) := by decide +kernel
theorem dX12_goesBy_265 : decode cX12_goesBy 265 = .ok (.if_icmp .ge 8, 3) := by decide +kernel
theorem dX12_goesBy_268 : decode cX12_goesBy 268 = .ok (.aload_n 0, 1) := by decide +kernel
theorem dX12_goesBy_269 : decode cX12_goesBy 269 = .ok (.iload_n 3, 1) := by decide +kernel
theorem dX12_goesBy_270 : decode cX12_goesBy 270 = .ok (.putfield 408, 3) := by decide +kernel
theorem dX12_goesBy_273 : decode cX12_goesBy 273 = .ok (.return_, 1) := by decide +kernel
theorem dX12_judged_0 : decode cX12_judged 0 = .ok (.aload_n 0, 1) := by decide +kernel
theorem dX12_judged_1 : decode cX12_judged 1 = .ok (.iconst 0, 1) := by decide +kernel
theorem dX12_judged_2 : decode cX12_judged 2 = .ok (.iconst 0, 1) := by decide +kernel
theorem dX12_judged_3 : decode cX12_judged 3 = .ok (.invokevirtual 454, 3) := by decide +kernel
theorem dX12_judged_6 : decode cX12_judged 6 = .ok (.iload_n 1, 1) := by decide +kernel
set_option maxRecDepth 20000 in
theorem dX12_judged_7 : decode cX12_judged 7 = .ok (.tableswitch 60 0 4 #[33, 38, 43, 48, 54], 33) := by decide +kernel
theorem dX12_judged_40 : decode cX12_judged 40 = .ok (.aload_n 0, 1) := by decide +kernel
theorem dX12_judged_41 : decode cX12_judged 41 = .ok (.getfield 408, 3) := by decide +kernel
theorem dX12_judged_44 : decode cX12_judged 44 = .ok (.ireturn, 1) := by decide +kernel
theorem dX12_judged_45 : decode cX12_judged 45 = .ok (.aload_n 0, 1) := by decide +kernel
theorem dX12_judged_46 : decode cX12_judged 46 = .ok (.getfield 411, 3) := by decide +kernel
theorem dX12_judged_49 : decode cX12_judged 49 = .ok (.ireturn, 1) := by decide +kernel
theorem dX12_judged_50 : decode cX12_judged 50 = .ok (.aload_n 0, 1) := by decide +kernel
theorem dX12_judged_51 : decode cX12_judged 51 = .ok (.getfield 401, 3) := by decide +kernel
theorem dX12_judged_54 : decode cX12_judged 54 = .ok (.ireturn, 1) := by decide +kernel
theorem dX12_judged_55 : decode cX12_judged 55 = .ok (.aload_n 0, 1) := by decide +kernel
theorem dX12_judged_56 : decode cX12_judged 56 = .ok (.iconst 1, 1) := by decide +kernel
theorem dX12_judged_57 : decode cX12_judged 57 = .ok (.invokevirtual 420, 3) := by decide +kernel
theorem dX12_judged_60 : decode cX12_judged 60 = .ok (.ireturn, 1) := by decide +kernel
theorem dX12_judged_61 : decode cX12_judged 61 = .ok (.aload_n 0, 1) := by decide +kernel
theorem dX12_judged_62 : decode cX12_judged 62 = .ok (.iconst 2, 1) := by decide +kernel
theorem dX12_judged_63 : decode cX12_judged 63 = .ok (.invokevirtual 420, 3) := by decide +kernel
theorem dX12_judged_66 : decode cX12_judged 66 = .ok (.ireturn, 1) := by decide +kernel
theorem dX12_judged_67 : decode cX12_judged 67 = .ok (.bipush (-2), 2) := by decide +kernel
theorem dX12_judged_69 : decode cX12_judged 69 = .ok (.ireturn, 1) := by decide +kernel
theorem dX12_then_0 : decode cX12_then 0 = .ok (.aload_n 0, 1) := by decide +kernel
theorem dX12_then_1 : decode cX12_then 1 = .ok (.iconst 0, 1) := by decide +kernel
theorem dX12_then_2 : decode cX12_then 2 = .ok (.iconst 0, 1) := by decide +kernel
theorem dX12_then_3 : decode cX12_then 3 = .ok (.invokevirtual 454, 3) := by decide +kernel
theorem dX12_then_6 : decode cX12_then 6 = .ok (.iload_n 1, 1) := by decide +kernel
theorem dX12_then_7 : decode cX12_then 7 = .ok (.i2l, 1) := by decide +kernel
theorem dX12_then_8 : decode cX12_then 8 = .ok (.lconst 0, 1) := by decide +kernel
theorem dX12_then_9 : decode cX12_then 9 = .ok (.aload_n 0, 1) := by decide +kernel
theorem dX12_then_10 : decode cX12_then 10 = .ok (.getfield 414, 3) := by decide +kernel
theorem dX12_then_13 : decode cX12_then 13 = .ok (.iconst 1, 1) := by decide +kernel
theorem dX12_then_14 : decode cX12_then 14 = .ok (.isub, 1) := by decide +kernel
theorem dX12_then_15 : decode cX12_then 15 = .ok (.i2l, 1) := by decide +kernel
theorem dX12_then_16 : decode cX12_then 16 = .ok (.invokestatic 201, 3) := by decide +kernel
theorem dX12_then_19 : decode cX12_then 19 = .ok (.ifCond .eq 13, 3) := by decide +kernel
theorem dX12_then_22 : decode cX12_then 22 = .ok (.iload_n 2, 1) := by decide +kernel
theorem dX12_then_23 : decode cX12_then 23 = .ok (.i2l, 1) := by decide +kernel
theorem dX12_then_24 : decode cX12_then 24 = .ok (.lconst 0, 1) := by decide +kernel
theorem dX12_then_25 : decode cX12_then 25 = .ok (.lconst 1, 1) := by decide +kernel
theorem dX12_then_26 : decode cX12_then 26 = .ok (.invokestatic 201, 3) := by decide +kernel
theorem dX12_then_29 : decode cX12_then 29 = .ok (.ifCond .ne 8, 3) := by decide +kernel
theorem dX12_then_32 : decode cX12_then 32 = .ok (.bipush (-2), 2) := by decide +kernel
theorem dX12_then_34 : decode cX12_then 34 = .ok (.goto 22, 3) := by decide +kernel
theorem dX12_then_37 : decode cX12_then 37 = .ok (.iload_n 2, 1) := by decide +kernel
theorem dX12_then_38 : decode cX12_then 38 = .ok (.ifCond .ne 12, 3) := by decide +kernel
theorem dX12_then_41 : decode cX12_then 41 = .ok (.aload_n 0, 1) := by decide +kernel
theorem dX12_then_42 : decode cX12_then 42 = .ok (.getfield 108, 3) := by decide +kernel
theorem dX12_then_45 : decode cX12_then 45 = .ok (.iload_n 1, 1) := by decide +kernel
theorem dX12_then_46 : decode cX12_then 46 = .ok (.iaload, 1) := by decide +kernel
theorem dX12_then_47 : decode cX12_then 47 = .ok (.goto 9, 3) := by decide +kernel
theorem dX12_then_50 : decode cX12_then 50 = .ok (.aload_n 0, 1) := by decide +kernel
theorem dX12_then_51 : decode cX12_then 51 = .ok (.getfield 111, 3) := by decide +kernel
theorem dX12_then_54 : decode cX12_then 54 = .ok (.iload_n 1, 1) := by decide +kernel
theorem dX12_then_55 : decode cX12_then 55 = .ok (.iaload, 1) := by decide +kernel
theorem dX12_then_56 : decode cX12_then 56 = .ok (.ireturn, 1) := by decide +kernel
theorem dX12_holds_0 : decode cX12_holds 0 = .ok (.iload_n 1, 1) := by decide +kernel
theorem dX12_holds_1 : decode cX12_holds 1 = .ok (.ifCond .lt 15, 3) := by decide +kernel
theorem dX12_holds_4 : decode cX12_holds 4 = .ok (.iload_n 2, 1) := by decide +kernel
theorem dX12_holds_5 : decode cX12_holds 5 = .ok (.i2l, 1) := by decide +kernel
theorem dX12_holds_6 : decode cX12_holds 6 = .ok (.lconst 1, 1) := by decide +kernel
theorem dX12_holds_7 : decode cX12_holds 7 = .ok (.ldc2_w 457, 3) := by decide +kernel
theorem dX12_holds_10 : decode cX12_holds 10 = .ok (.invokestatic 201, 3) := by decide +kernel
theorem dX12_holds_13 : decode cX12_holds 13 = .ok (.ifCond .ne 5, 3) := by decide +kernel
theorem dX12_holds_16 : decode cX12_holds 16 = .ok (.iconst (-1), 1) := by decide +kernel
theorem dX12_holds_17 : decode cX12_holds 17 = .ok (.ireturn, 1) := by decide +kernel
theorem dX12_holds_18 : decode cX12_holds 18 = .ok (.aload_n 0, 1) := by decide +kernel
theorem dX12_holds_19 : decode cX12_holds 19 = .ok (.iload_n 1, 1) := by decide +kernel
theorem dX12_holds_20 : decode cX12_holds 20 = .ok (.i2l, 1) := by decide +kernel
theorem dX12_holds_21 : decode cX12_holds 21 = .ok (.putfield 423, 3) := by decide +kernel
theorem dX12_holds_24 : decode cX12_holds 24 = .ok (.iconst 0, 1) := by decide +kernel
theorem dX12_holds_25 : decode cX12_holds 25 = .ok (.istore_n 3, 1) := by decide +kernel
theorem dX12_holds_26 : decode cX12_holds 26 = .ok (.iconst 0, 1) := by decide +kernel
theorem dX12_holds_27 : decode cX12_holds 27 = .ok (.istore 4, 2) := by decide +kernel
theorem dX12_holds_29 : decode cX12_holds 29 = .ok (.iload 4, 2) := by decide +kernel
theorem dX12_holds_31 : decode cX12_holds 31 = .ok (.iload_n 2, 1) := by decide +kernel
theorem dX12_holds_32 : decode cX12_holds 32 = .ok (.if_icmp .ge 39, 3) := by decide +kernel
theorem dX12_holds_35 : decode cX12_holds 35 = .ok (.aload_n 0, 1) := by decide +kernel
theorem dX12_holds_36 : decode cX12_holds 36 = .ok (.iconst 1, 1) := by decide +kernel
theorem dX12_holds_37 : decode cX12_holds 37 = .ok (.iconst 0, 1) := by decide +kernel
theorem dX12_holds_38 : decode cX12_holds 38 = .ok (.invokevirtual 454, 3) := by decide +kernel
theorem dX12_holds_41 : decode cX12_holds 41 = .ok (.iload_n 3, 1) := by decide +kernel
theorem dX12_holds_42 : decode cX12_holds 42 = .ok (.aload_n 0, 1) := by decide +kernel
theorem dX12_holds_43 : decode cX12_holds 43 = .ok (.getfield 408, 3) := by decide +kernel
theorem dX12_holds_46 : decode cX12_holds 46 = .ok (.iconst (-1), 1) := by decide +kernel
theorem dX12_holds_47 : decode cX12_holds 47 = .ok (.if_icmp .ne 15, 3) := by decide +kernel
theorem dX12_holds_50 : decode cX12_holds 50 = .ok (.aload_n 0, 1) := by decide +kernel
theorem dX12_holds_51 : decode cX12_holds 51 = .ok (.getfield 411, 3) := by decide +kernel
theorem dX12_holds_54 : decode cX12_holds 54 = .ok (.iconst (-1), 1) := by decide +kernel
theorem dX12_holds_55 : decode cX12_holds 55 = .ok (.if_icmp .ne 7, 3) := by decide +kernel
theorem dX12_holds_58 : decode cX12_holds 58 = .ok (.iconst 1, 1) := by decide +kernel
theorem dX12_holds_59 : decode cX12_holds 59 = .ok (.goto 4, 3) := by decide +kernel
theorem dX12_holds_62 : decode cX12_holds 62 = .ok (.iconst 0, 1) := by decide +kernel
theorem dX12_holds_63 : decode cX12_holds 63 = .ok (.iadd, 1) := by decide +kernel
theorem dX12_holds_64 : decode cX12_holds 64 = .ok (.istore_n 3, 1) := by decide +kernel
theorem dX12_holds_65 : decode cX12_holds 65 = .ok (.iinc 4 1, 3) := by decide +kernel
theorem dX12_holds_68 : decode cX12_holds 68 = .ok (.goto (-39), 3) := by decide +kernel
theorem dX12_holds_71 : decode cX12_holds 71 = .ok (.iload_n 3, 1) := by decide +kernel
theorem dX12_holds_72 : decode cX12_holds 72 = .ok (.ireturn, 1) := by decide +kernel
theorem dX12_surely_0 : decode cX12_surely 0 = .ok (.aload_n 0, 1) := by decide +kernel
theorem dX12_surely_1 : decode cX12_surely 1 = .ok (.getfield 77, 3) := by decide +kernel
theorem dX12_surely_4 : decode cX12_surely 4 = .ok (.iconst 0, 1) := by decide +kernel
theorem dX12_surely_5 : decode cX12_surely 5 = .ok (.iaload, 1) := by decide +kernel
theorem dX12_surely_6 : decode cX12_surely 6 = .ok (.bipush 10, 2) := by decide +kernel
theorem dX12_surely_8 : decode cX12_surely 8 = .ok (.if_icmp .le 5, 3) := by decide +kernel
theorem dX12_surely_11 : decode cX12_surely 11 = .ok (.iconst (-1), 1) := by decide +kernel
theorem dX12_surely_12 : decode cX12_surely 12 = .ok (.ireturn, 1) := by decide +kernel
theorem dX12_surely_13 : decode cX12_surely 13 = .ok (.lconst 0, 1) := by decide +kernel
theorem dX12_surely_14 : decode cX12_surely 14 = .ok (.lstore_n 1, 1) := by decide +kernel
theorem dX12_surely_15 : decode cX12_surely 15 = .ok (.iconst 0, 1) := by decide +kernel
theorem dX12_surely_16 : decode cX12_surely 16 = .ok (.istore_n 3, 1) := by decide +kernel
theorem dX12_surely_17 : decode cX12_surely 17 = .ok (.iload_n 3, 1) := by decide +kernel
theorem dX12_surely_18 : decode cX12_surely 18 = .ok (.iconst 1, 1) := by decide +kernel
theorem dX12_surely_19 : decode cX12_surely 19 = .ok (.aload_n 0, 1) := by decide +kernel
theorem dX12_surely_20 : decode cX12_surely 20 = .ok (.getfield 77, 3) := by decide +kernel
theorem dX12_surely_23 : decode cX12_surely 23 = .ok (.iconst 0, 1) := by decide +kernel
theorem dX12_surely_24 : decode cX12_surely 24 = .ok (.iaload, 1) := by decide +kernel
theorem dX12_surely_25 : decode cX12_surely 25 = .ok (.ishl, 1) := by decide +kernel
theorem dX12_surely_26 : decode cX12_surely 26 = .ok (.if_icmp .ge 104, 3) := by decide +kernel
theorem dX12_surely_29 : decode cX12_surely 29 = .ok (.ldc2_w 459, 3) := by decide +kernel
theorem dX12_surely_32 : decode cX12_surely 32 = .ok (.lstore 4, 2) := by decide +kernel
theorem dX12_surely_34 : decode cX12_surely 34 = .ok (.iconst 0, 1) := by decide +kernel
theorem dX12_surely_35 : decode cX12_surely 35 = .ok (.istore 6, 2) := by decide +kernel
theorem dX12_surely_37 : decode cX12_surely 37 = .ok (.iload 6, 2) := by decide +kernel
theorem dX12_surely_39 : decode cX12_surely 39 = .ok (.aload_n 0, 1) := by decide +kernel
theorem dX12_surely_40 : decode cX12_surely 40 = .ok (.getfield 77, 3) := by decide +kernel
theorem dX12_surely_43 : decode cX12_surely 43 = .ok (.iconst 0, 1) := by decide +kernel
theorem dX12_surely_44 : decode cX12_surely 44 = .ok (.iaload, 1) := by decide +kernel
theorem dX12_surely_45 : decode cX12_surely 45 = .ok (.if_icmp .ge 48, 3) := by decide +kernel
theorem dX12_surely_48 : decode cX12_surely 48 = .ok (.lload 4, 2) := by decide +kernel
theorem dX12_surely_50 : decode cX12_surely 50 = .ok (.iload_n 3, 1) := by decide +kernel
theorem dX12_surely_51 : decode cX12_surely 51 = .ok (.iload 6, 2) := by decide +kernel
theorem dX12_surely_53 : decode cX12_surely 53 = .ok (.ishr, 1) := by decide +kernel
theorem dX12_surely_54 : decode cX12_surely 54 = .ok (.iconst 1, 1) := by decide +kernel
theorem dX12_surely_55 : decode cX12_surely 55 = .ok (.iand, 1) := by decide +kernel
theorem dX12_surely_56 : decode cX12_surely 56 = .ok (.iconst 1, 1) := by decide +kernel
theorem dX12_surely_57 : decode cX12_surely 57 = .ok (.if_icmp .ne 12, 3) := by decide +kernel
theorem dX12_surely_60 : decode cX12_surely 60 = .ok (.aload_n 0, 1) := by decide +kernel
theorem dX12_surely_61 : decode cX12_surely 61 = .ok (.getfield 65, 3) := by decide +kernel
theorem dX12_surely_64 : decode cX12_surely 64 = .ok (.iconst 0, 1) := by decide +kernel
theorem dX12_surely_65 : decode cX12_surely 65 = .ok (.iaload, 1) := by decide +kernel
theorem dX12_surely_66 : decode cX12_surely 66 = .ok (.goto 13, 3) := by decide +kernel
theorem dX12_surely_69 : decode cX12_surely 69 = .ok (.sipush 1000, 3) := by decide +kernel
theorem dX12_surely_72 : decode cX12_surely 72 = .ok (.aload_n 0, 1) := by decide +kernel
theorem dX12_surely_73 : decode cX12_surely 73 = .ok (.getfield 65, 3) := by decide +kernel
theorem dX12_surely_76 : decode cX12_surely 76 = .ok (.iconst 0, 1) := by decide +kernel
theorem dX12_surely_77 : decode cX12_surely 77 = .ok (.iaload, 1) := by decide +kernel
theorem dX12_surely_78 : decode cX12_surely 78 = .ok (.isub, 1) := by decide +kernel
theorem dX12_surely_79 : decode cX12_surely 79 = .ok (.i2l, 1) := by decide +kernel
theorem dX12_surely_80 : decode cX12_surely 80 = .ok (.lmul, 1) := by decide +kernel
theorem dX12_surely_81 : decode cX12_surely 81 = .ok (.ldc2_w 435, 3) := by decide +kernel
theorem dX12_surely_84 : decode cX12_surely 84 = .ok (.ldiv, 1) := by decide +kernel
theorem dX12_surely_85 : decode cX12_surely 85 = .ok (.lstore 4, 2) := by decide +kernel
theorem dX12_surely_87 : decode cX12_surely 87 = .ok (.iinc 6 1, 3) := by decide +kernel
theorem dX12_surely_90 : decode cX12_surely 90 = .ok (.goto (-53), 3) := by decide +kernel
theorem dX12_surely_93 : decode cX12_surely 93 = .ok (.aload_n 0, 1) := by decide +kernel
theorem dX12_surely_94 : decode cX12_surely 94 = .ok (.iconst 2, 1) := by decide +kernel
theorem dX12_surely_95 : decode cX12_surely 95 = .ok (.iload_n 3, 1) := by decide +kernel
theorem dX12_surely_96 : decode cX12_surely 96 = .ok (.invokevirtual 454, 3) := by decide +kernel
theorem dX12_surely_99 : decode cX12_surely 99 = .ok (.lload_n 1, 1) := by decide +kernel
theorem dX12_surely_100 : decode cX12_surely 100 = .ok (.aload_n 0, 1) := by decide +kernel
theorem dX12_surely_101 : decode cX12_surely 101 = .ok (.getfield 408, 3) := by decide +kernel
theorem dX12_surely_104 : decode cX12_surely 104 = .ok (.iconst (-1), 1) := by decide +kernel
theorem dX12_surely_105 : decode cX12_surely 105 = .ok (.if_icmp .ne 16, 3) := by decide +kernel
theorem dX12_surely_108 : decode cX12_surely 108 = .ok (.aload_n 0, 1) := by decide +kernel
theorem dX12_surely_109 : decode cX12_surely 109 = .ok (.getfield 411, 3) := by decide +kernel
theorem dX12_surely_112 : decode cX12_surely 112 = .ok (.iconst (-1), 1) := by decide +kernel
theorem dX12_surely_113 : decode cX12_surely 113 = .ok (.if_icmp .ne 8, 3) := by decide +kernel
theorem dX12_surely_116 : decode cX12_surely 116 = .ok (.lload 4, 2) := by decide +kernel
theorem dX12_surely_118 : decode cX12_surely 118 = .ok (.goto 4, 3) := by decide +kernel
theorem dX12_surely_121 : decode cX12_surely 121 = .ok (.lconst 0, 1) := by decide +kernel
theorem dX12_surely_122 : decode cX12_surely 122 = .ok (.ladd, 1) := by decide +kernel
theorem dX12_surely_123 : decode cX12_surely 123 = .ok (.lstore_n 1, 1) := by decide +kernel
theorem dX12_surely_124 : decode cX12_surely 124 = .ok (.iinc 3 1, 3) := by decide +kernel
theorem dX12_surely_127 : decode cX12_surely 127 = .ok (.goto (-110), 3) := by decide +kernel
theorem dX12_surely_130 : decode cX12_surely 130 = .ok (.lload_n 1, 1) := by decide +kernel
theorem dX12_surely_131 : decode cX12_surely 131 = .ok (.l2i, 1) := by decide +kernel
theorem dX12_surely_132 : decode cX12_surely 132 = .ok (.ireturn, 1) := by decide +kernel
theorem dX12_asItIs_0 : decode cX12_asItIs 0 = .ok (.aload_n 0, 1) := by decide +kernel
theorem dX12_asItIs_1 : decode cX12_asItIs 1 = .ok (.iconst 0, 1) := by decide +kernel
theorem dX12_asItIs_2 : decode cX12_asItIs 2 = .ok (.putfield 461, 3) := by decide +kernel
theorem dX12_asItIs_5 : decode cX12_asItIs 5 = .ok (.aload_n 0, 1) := by decide +kernel
theorem dX12_asItIs_6 : decode cX12_asItIs 6 = .ok (.iconst 0, 1) := by decide +kernel
theorem dX12_asItIs_7 : decode cX12_asItIs 7 = .ok (.putfield 464, 3) := by decide +kernel
theorem dX12_asItIs_10 : decode cX12_asItIs 10 = .ok (.aload_n 0, 1) := by decide +kernel
theorem dX12_asItIs_11 : decode cX12_asItIs 11 = .ok (.iconst (-1), 1) := by decide +kernel
theorem dX12_asItIs_12 : decode cX12_asItIs 12 = .ok (.putfield 467, 3) := by decide +kernel
theorem dX12_asItIs_15 : decode cX12_asItIs 15 = .ok (.aload_n 0, 1) := by decide +kernel
theorem dX12_asItIs_16 : decode cX12_asItIs 16 = .ok (.iconst (-1), 1) := by decide +kernel
theorem dX12_asItIs_17 : decode cX12_asItIs 17 = .ok (.putfield 470, 3) := by decide +kernel
theorem dX12_asItIs_20 : decode cX12_asItIs 20 = .ok (.aload_n 0, 1) := by decide +kernel
theorem dX12_asItIs_21 : decode cX12_asItIs 21 = .ok (.iconst (-1), 1) := by decide +kernel
theorem dX12_asItIs_22 : decode cX12_asItIs 22 = .ok (.putfield 473, 3) := by decide +kernel
theorem dX12_asItIs_25 : decode cX12_asItIs 25 = .ok (.aload_n 0, 1) := by decide +kernel
theorem dX12_asItIs_26 : decode cX12_asItIs 26 = .ok (.aload_n 0, 1) := by decide +kernel
theorem dX12_asItIs_27 : decode cX12_asItIs 27 = .ok (.getfield 74, 3) := by decide +kernel
theorem dX12_asItIs_30 : decode cX12_asItIs 30 = .ok (.iconst 0, 1) := by decide +kernel
theorem dX12_asItIs_31 : decode cX12_asItIs 31 = .ok (.iaload, 1) := by decide +kernel
theorem dX12_asItIs_32 : decode cX12_asItIs 32 = .ok (.putfield 476, 3) := by decide +kernel
theorem dX12_asItIs_35 : decode cX12_asItIs 35 = .ok (.return_, 1) := by decide +kernel
theorem dX12_gone_0 : decode cX12_gone 0 = .ok (.aload_n 0, 1) := by decide +kernel
theorem dX12_gone_1 : decode cX12_gone 1 = .ok (.getfield 461, 3) := by decide +kernel
theorem dX12_gone_4 : decode cX12_gone 4 = .ok (.istore_n 2, 1) := by decide +kernel
theorem dX12_gone_5 : decode cX12_gone 5 = .ok (.iconst 0, 1) := by decide +kernel
theorem dX12_gone_6 : decode cX12_gone 6 = .ok (.istore_n 3, 1) := by decide +kernel
theorem dX12_gone_7 : decode cX12_gone 7 = .ok (.iload_n 3, 1) := by decide +kernel
theorem dX12_gone_8 : decode cX12_gone 8 = .ok (.bipush 8, 2) := by decide +kernel
theorem dX12_gone_10 : decode cX12_gone 10 = .ok (.if_icmp .ge 65, 3) := by decide +kernel
theorem dX12_gone_13 : decode cX12_gone 13 = .ok (.iload_n 2, 1) := by decide +kernel
theorem dX12_gone_14 : decode cX12_gone 14 = .ok (.aload_n 0, 1) := by decide +kernel
theorem dX12_gone_15 : decode cX12_gone 15 = .ok (.getfield 44, 3) := by decide +kernel
theorem dX12_gone_18 : decode cX12_gone 18 = .ok (.iload_n 3, 1) := by decide +kernel
theorem dX12_gone_19 : decode cX12_gone 19 = .ok (.iaload, 1) := by decide +kernel
theorem dX12_gone_20 : decode cX12_gone 20 = .ok (.iconst 1, 1) := by decide +kernel
theorem dX12_gone_21 : decode cX12_gone 21 = .ok (.if_icmp .ne 45, 3) := by decide +kernel
theorem dX12_gone_24 : decode cX12_gone 24 = .ok (.aload_n 0, 1) := by decide +kernel
theorem dX12_gone_25 : decode cX12_gone 25 = .ok (.getfield 53, 3) := by decide +kernel
theorem dX12_gone_28 : decode cX12_gone 28 = .ok (.iload_n 3, 1) := by decide +kernel
theorem dX12_gone_29 : decode cX12_gone 29 = .ok (.iaload, 1) := by decide +kernel
theorem dX12_gone_30 : decode cX12_gone 30 = .ok (.iconst (-1), 1) := by decide +kernel
theorem dX12_gone_31 : decode cX12_gone 31 = .ok (.if_icmp .eq 13, 3) := by decide +kernel
theorem dX12_gone_34 : decode cX12_gone 34 = .ok (.aload_n 0, 1) := by decide +kernel
theorem dX12_gone_35 : decode cX12_gone 35 = .ok (.getfield 53, 3) := by decide +kernel
theorem dX12_gone_38 : decode cX12_gone 38 = .ok (.iload_n 3, 1) := by decide +kernel
theorem dX12_gone_39 : decode cX12_gone 39 = .ok (.iaload, 1) := by decide +kernel
theorem dX12_gone_40 : decode cX12_gone 40 = .ok (.iload_n 1, 1) := by decide +kernel
theorem dX12_gone_41 : decode cX12_gone 41 = .ok (.if_icmp .le 19, 3) := by decide +kernel
theorem dX12_gone_44 : decode cX12_gone 44 = .ok (.iload_n 3, 1) := by decide +kernel
theorem dX12_gone_45 : decode cX12_gone 45 = .ok (.aload_n 0, 1) := by decide +kernel
theorem dX12_gone_46 : decode cX12_gone 46 = .ok (.getfield 467, 3) := by decide +kernel
theorem dX12_gone_49 : decode cX12_gone 49 = .ok (.if_icmp .ne 17, 3) := by decide +kernel
theorem dX12_gone_52 : decode cX12_gone 52 = .ok (.iload_n 1, 1) := by decide +kernel
theorem dX12_gone_53 : decode cX12_gone 53 = .ok (.aload_n 0, 1) := by decide +kernel
theorem dX12_gone_54 : decode cX12_gone 54 = .ok (.getfield 470, 3) := by decide +kernel
theorem dX12_gone_57 : decode cX12_gone 57 = .ok (.if_icmp .lt 9, 3) := by decide +kernel
theorem dX12_gone_60 : decode cX12_gone 60 = .ok (.iconst 1, 1) := by decide +kernel
theorem dX12_gone_61 : decode cX12_gone 61 = .ok (.iload_n 3, 1) := by decide +kernel
theorem dX12_gone_62 : decode cX12_gone 62 = .ok (.ishl, 1) := by decide +kernel
theorem dX12_gone_63 : decode cX12_gone 63 = .ok (.goto 4, 3) := by decide +kernel
theorem dX12_gone_66 : decode cX12_gone 66 = .ok (.iconst 0, 1) := by decide +kernel
theorem dX12_gone_67 : decode cX12_gone 67 = .ok (.ior, 1) := by decide +kernel
theorem dX12_gone_68 : decode cX12_gone 68 = .ok (.istore_n 2, 1) := by decide +kernel
theorem dX12_gone_69 : decode cX12_gone 69 = .ok (.iinc 3 1, 3) := by decide +kernel
theorem dX12_gone_72 : decode cX12_gone 72 = .ok (.goto (-65), 3) := by decide +kernel
theorem dX12_gone_75 : decode cX12_gone 75 = .ok (.iload_n 2, 1) := by decide +kernel
theorem dX12_gone_76 : decode cX12_gone 76 = .ok (.ireturn, 1) := by decide +kernel
theorem dX12_leads_0 : decode cX12_leads 0 = .ok (.iload_n 1, 1) := by decide +kernel
theorem dX12_leads_1 : decode cX12_leads 1 = .ok (.istore 5, 2) := by decide +kernel
theorem dX12_leads_3 : decode cX12_leads 3 = .ok (.aload_n 0, 1) := by decide +kernel
theorem dX12_leads_4 : decode cX12_leads 4 = .ok (.getfield 473, 3) := by decide +kernel
theorem dX12_leads_7 : decode cX12_leads 7 = .ok (.iconst (-1), 1) := by decide +kernel
theorem dX12_leads_8 : decode cX12_leads 8 = .ok (.if_icmp .eq 32, 3) := by decide +kernel
theorem dX12_leads_11 : decode cX12_leads 11 = .ok (.iload 4, 2) := by decide +kernel
theorem dX12_leads_13 : decode cX12_leads 13 = .ok (.aload_n 0, 1) := by decide +kernel
theorem dX12_leads_14 : decode cX12_leads 14 = .ok (.getfield 71, 3) := by decide +kernel
theorem dX12_leads_17 : decode cX12_leads 17 = .ok (.iconst 0, 1) := by decide +kernel
theorem dX12_leads_18 : decode cX12_leads 18 = .ok (.iaload, 1) := by decide +kernel
theorem dX12_leads_19 : decode cX12_leads 19 = .ok (.if_icmp .ne 21, 3) := by decide +kernel
theorem dX12_leads_22 : decode cX12_leads 22 = .ok (.iload 5, 2) := by decide +kernel
theorem dX12_leads_24 : decode cX12_leads 24 = .ok (.aload_n 0, 1) := by decide +kernel
theorem dX12_leads_25 : decode cX12_leads 25 = .ok (.getfield 68, 3) := by decide +kernel
theorem dX12_leads_28 : decode cX12_leads 28 = .ok (.iconst 0, 1) := by decide +kernel
theorem dX12_leads_29 : decode cX12_leads 29 = .ok (.iaload, 1) := by decide +kernel
theorem dX12_leads_30 : decode cX12_leads 30 = .ok (.isub, 1) := by decide +kernel
theorem dX12_leads_31 : decode cX12_leads 31 = .ok (.istore 5, 2) := by decide +kernel
theorem dX12_leads_33 : decode cX12_leads 33 = .ok (.iload 5, 2) := by decide +kernel
theorem dX12_leads_35 : decode cX12_leads 35 = .ok (.ifCond .ge 5, 3) := by decide +kernel
theorem dX12_leads_38 : decode cX12_leads 38 = .ok (.iconst (-1), 1) := by decide +kernel
theorem dX12_leads_39 : decode cX12_leads 39 = .ok (.ireturn, 1) := by decide +kernel
theorem dX12_leads_40 : decode cX12_leads 40 = .ok (.iload 5, 2) := by decide +kernel
theorem dX12_leads_42 : decode cX12_leads 42 = .ok (.iload 4, 2) := by decide +kernel
theorem dX12_leads_44 : decode cX12_leads 44 = .ok (.aload_n 0, 1) := by decide +kernel
theorem dX12_leads_45 : decode cX12_leads 45 = .ok (.getfield 473, 3) := by decide +kernel
theorem dX12_leads_48 : decode cX12_leads 48 = .ok (.if_icmp .ne 12, 3) := by decide +kernel
theorem dX12_leads_51 : decode cX12_leads 51 = .ok (.aload_n 0, 1) := by decide +kernel
theorem dX12_leads_52 : decode cX12_leads 52 = .ok (.getfield 68, 3) := by decide +kernel
theorem dX12_leads_55 : decode cX12_leads 55 = .ok (.iconst 0, 1) := by decide +kernel
theorem dX12_leads_56 : decode cX12_leads 56 = .ok (.iaload, 1) := by decide +kernel
theorem dX12_leads_57 : decode cX12_leads 57 = .ok (.goto 4, 3) := by decide +kernel
theorem dX12_leads_60 : decode cX12_leads 60 = .ok (.iconst 0, 1) := by decide +kernel
theorem dX12_leads_61 : decode cX12_leads 61 = .ok (.iadd, 1) := by decide +kernel
theorem dX12_leads_62 : decode cX12_leads 62 = .ok (.istore 5, 2) := by decide +kernel
theorem dX12_leads_64 : decode cX12_leads 64 = .ok (.iload 5, 2) := by decide +kernel
theorem dX12_leads_66 : decode cX12_leads 66 = .ok (.iload 4, 2) := by decide +kernel
theorem dX12_leads_68 : decode cX12_leads 68 = .ok (.aload_n 0, 1) := by decide +kernel
theorem dX12_leads_69 : decode cX12_leads 69 = .ok (.getfield 470, 3) := by decide +kernel
theorem dX12_leads_72 : decode cX12_leads 72 = .ok (.if_icmp .ne 15, 3) := by decide +kernel
theorem dX12_leads_75 : decode cX12_leads 75 = .ok (.aload_n 0, 1) := by decide +kernel
theorem dX12_leads_76 : decode cX12_leads 76 = .ok (.getfield 59, 3) := by decide +kernel
theorem dX12_leads_79 : decode cX12_leads 79 = .ok (.aload_n 0, 1) := by decide +kernel
theorem dX12_leads_80 : decode cX12_leads 80 = .ok (.getfield 467, 3) := by decide +kernel
theorem dX12_leads_83 : decode cX12_leads 83 = .ok (.iaload, 1) := by decide +kernel
theorem dX12_leads_84 : decode cX12_leads 84 = .ok (.goto 4, 3) := by decide +kernel
theorem dX12_leads_87 : decode cX12_leads 87 = .ok (.iconst 0, 1) := by decide +kernel
theorem dX12_leads_88 : decode cX12_leads 88 = .ok (.iadd, 1) := by decide +kernel
theorem dX12_leads_89 : decode cX12_leads 89 = .ok (.istore 5, 2) := by decide +kernel
theorem dX12_leads_91 : decode cX12_leads 91 = .ok (.iconst 0, 1) := by decide +kernel
theorem dX12_leads_92 : decode cX12_leads 92 = .ok (.istore 6, 2) := by decide +kernel
theorem dX12_leads_94 : decode cX12_leads 94 = .ok (.iconst 0, 1) := by decide +kernel
theorem dX12_leads_95 : decode cX12_leads 95 = .ok (.istore 7, 2) := by decide +kernel
theorem dX12_leads_97 : decode cX12_leads 97 = .ok (.iload 7, 2) := by decide +kernel
theorem dX12_leads_99 : decode cX12_leads 99 = .ok (.bipush 8, 2) := by decide +kernel
theorem dX12_leads_101 : decode cX12_leads 101 = .ok (.if_icmp .ge 40, 3) := by decide +kernel
theorem dX12_leads_104 : decode cX12_leads 104 = .ok (.iload 6, 2) := by decide +kernel
theorem dX12_leads_106 : decode cX12_leads 106 = .ok (.iload_n 3, 1) := by decide +kernel
theorem dX12_leads_107 : decode cX12_leads 107 = .ok (.iload_n 2, 1) := by decide +kernel
theorem dX12_leads_108 : decode cX12_leads 108 = .ok (.iconst (-1), 1) := by decide +kernel
theorem dX12_leads_109 : decode cX12_leads 109 = .ok (.ixor, 1) := by decide +kernel
theorem dX12_leads_110 : decode cX12_leads 110 = .ok (.iand, 1) := by decide +kernel
theorem dX12_leads_111 : decode cX12_leads 111 = .ok (.iload 7, 2) := by decide +kernel
theorem dX12_leads_113 : decode cX12_leads 113 = .ok (.ishr, 1) := by decide +kernel
theorem dX12_leads_114 : decode cX12_leads 114 = .ok (.iconst 1, 1) := by decide +kernel
theorem dX12_leads_115 : decode cX12_leads 115 = .ok (.iand, 1) := by decide +kernel
theorem dX12_leads_116 : decode cX12_leads 116 = .ok (.iconst 1, 1) := by decide +kernel
theorem dX12_leads_117 : decode cX12_leads 117 = .ok (.if_icmp .ne 14, 3) := by decide +kernel
theorem dX12_leads_120 : decode cX12_leads 120 = .ok (.aload_n 0, 1) := by decide +kernel
theorem dX12_leads_121 : decode cX12_leads 121 = .ok (.iload 7, 2) := by decide +kernel
theorem dX12_leads_123 : decode cX12_leads 123 = .ok (.iload 4, 2) := by decide +kernel
theorem dX12_leads_125 : decode cX12_leads 125 = .ok (.invokevirtual 385, 3) := by decide +kernel
theorem dX12_leads_128 : decode cX12_leads 128 = .ok (.goto 4, 3) := by decide +kernel
theorem dX12_leads_131 : decode cX12_leads 131 = .ok (.iconst 0, 1) := by decide +kernel
theorem dX12_leads_132 : decode cX12_leads 132 = .ok (.iadd, 1) := by decide +kernel
theorem dX12_leads_133 : decode cX12_leads 133 = .ok (.istore 6, 2) := by decide +kernel
theorem dX12_leads_135 : decode cX12_leads 135 = .ok (.iinc 7 1, 3) := by decide +kernel
theorem dX12_leads_138 : decode cX12_leads 138 = .ok (.goto (-41), 3) := by decide +kernel
theorem dX12_leads_141 : decode cX12_leads 141 = .ok (.iload 6, 2) := by decide +kernel
theorem dX12_leads_143 : decode cX12_leads 143 = .ok (.iload 5, 2) := by decide +kernel
theorem dX12_leads_145 : decode cX12_leads 145 = .ok (.if_icmp .le 5, 3) := by decide +kernel
theorem dX12_leads_148 : decode cX12_leads 148 = .ok (.iconst (-1), 1) := by decide +kernel
theorem dX12_leads_149 : decode cX12_leads 149 = .ok (.ireturn, 1) := by decide +kernel
theorem dX12_leads_150 : decode cX12_leads 150 = .ok (.aload_n 0, 1) := by decide +kernel
theorem dX12_leads_151 : decode cX12_leads 151 = .ok (.invokevirtual 354, 3) := by decide +kernel
theorem dX12_leads_154 : decode cX12_leads 154 = .ok (.iload_n 3, 1) := by decide +kernel
theorem dX12_leads_155 : decode cX12_leads 155 = .ok (.iconst (-1), 1) := by decide +kernel
theorem dX12_leads_156 : decode cX12_leads 156 = .ok (.ixor, 1) := by decide +kernel
theorem dX12_leads_157 : decode cX12_leads 157 = .ok (.iand, 1) := by decide +kernel
theorem dX12_leads_158 : decode cX12_leads 158 = .ok (.aload_n 0, 1) := by decide +kernel
theorem dX12_leads_159 : decode cX12_leads 159 = .ok (.iload 4, 2) := by decide +kernel
theorem dX12_leads_161 : decode cX12_leads 161 = .ok (.invokevirtual 479, 3) := by decide +kernel
theorem dX12_leads_164 : decode cX12_leads 164 = .ok (.iconst (-1), 1) := by decide +kernel
theorem dX12_leads_165 : decode cX12_leads 165 = .ok (.ixor, 1) := by decide +kernel
theorem dX12_leads_166 : decode cX12_leads 166 = .ok (.iand, 1) := by decide +kernel
theorem dX12_leads_167 : decode cX12_leads 167 = .ok (.istore 7, 2) := by decide +kernel
theorem dX12_leads_169 : decode cX12_leads 169 = .ok (.iload 5, 2) := by decide +kernel
theorem dX12_leads_171 : decode cX12_leads 171 = .ok (.aload_n 0, 1) := by decide +kernel
theorem dX12_leads_172 : decode cX12_leads 172 = .ok (.iconst 1, 1) := by decide +kernel
theorem dX12_leads_173 : decode cX12_leads 173 = .ok (.iload_n 3, 1) := by decide +kernel
theorem dX12_leads_174 : decode cX12_leads 174 = .ok (.iload 7, 2) := by decide +kernel
theorem dX12_leads_176 : decode cX12_leads 176 = .ok (.iload 4, 2) := by decide +kernel
theorem dX12_leads_178 : decode cX12_leads 178 = .ok (.invokevirtual 395, 3) := by decide +kernel
theorem dX12_leads_181 : decode cX12_leads 181 = .ok (.iload 6, 2) := by decide +kernel
theorem dX12_leads_183 : decode cX12_leads 183 = .ok (.isub, 1) := by decide +kernel
theorem dX12_leads_184 : decode cX12_leads 184 = .ok (.iadd, 1) := by decide +kernel
theorem dX12_leads_185 : decode cX12_leads 185 = .ok (.istore 5, 2) := by decide +kernel
theorem dX12_leads_187 : decode cX12_leads 187 = .ok (.aload_n 0, 1) := by decide +kernel
theorem dX12_leads_188 : decode cX12_leads 188 = .ok (.iconst 2, 1) := by decide +kernel
theorem dX12_leads_189 : decode cX12_leads 189 = .ok (.iload_n 3, 1) := by decide +kernel
theorem dX12_leads_190 : decode cX12_leads 190 = .ok (.iload 7, 2) := by decide +kernel
theorem dX12_leads_192 : decode cX12_leads 192 = .ok (.iload 4, 2) := by decide +kernel
theorem dX12_leads_194 : decode cX12_leads 194 = .ok (.invokevirtual 395, 3) := by decide +kernel
theorem dX12_leads_197 : decode cX12_leads 197 = .ok (.istore 8, 2) := by decide +kernel
theorem dX12_leads_199 : decode cX12_leads 199 = .ok (.iload 8, 2) := by decide +kernel
theorem dX12_leads_201 : decode cX12_leads 201 = .ok (.iload 5, 2) := by decide +kernel
theorem dX12_leads_203 : decode cX12_leads 203 = .ok (.if_icmp .le 7, 3) := by decide +kernel
theorem dX12_leads_206 : decode cX12_leads 206 = .ok (.iconst (-1), 1) := by decide +kernel
theorem dX12_leads_207 : decode cX12_leads 207 = .ok (.goto 8, 3) := by decide +kernel
theorem dX12_leads_210 : decode cX12_leads 210 = .ok (.iload 5, 2) := by decide +kernel
theorem dX12_leads_212 : decode cX12_leads 212 = .ok (.iload 8, 2) := by decide +kernel
theorem dX12_leads_214 : decode cX12_leads 214 = .ok (.isub, 1) := by decide +kernel
theorem dX12_leads_215 : decode cX12_leads 215 = .ok (.ireturn, 1) := by decide +kernel
theorem dX12_fetchable_0 : decode cX12_fetchable 0 = .ok (.aload_n 0, 1) := by decide +kernel
theorem dX12_fetchable_1 : decode cX12_fetchable 1 = .ok (.invokevirtual 354, 3) := by decide +kernel
theorem dX12_fetchable_4 : decode cX12_fetchable 4 = .ok (.iload_n 1, 1) := by decide +kernel
theorem dX12_fetchable_5 : decode cX12_fetchable 5 = .ok (.iconst (-1), 1) := by decide +kernel
theorem dX12_fetchable_6 : decode cX12_fetchable 6 = .ok (.ixor, 1) := by decide +kernel
theorem dX12_fetchable_7 : decode cX12_fetchable 7 = .ok (.iand, 1) := by decide +kernel
theorem dX12_fetchable_8 : decode cX12_fetchable 8 = .ok (.aload_n 0, 1) := by decide +kernel
theorem dX12_fetchable_9 : decode cX12_fetchable 9 = .ok (.iload_n 2, 1) := by decide +kernel
theorem dX12_fetchable_10 : decode cX12_fetchable 10 = .ok (.invokevirtual 479, 3) := by decide +kernel
theorem dX12_fetchable_13 : decode cX12_fetchable 13 = .ok (.iconst (-1), 1) := by decide +kernel
theorem dX12_fetchable_14 : decode cX12_fetchable 14 = .ok (.ixor, 1) := by decide +kernel
theorem dX12_fetchable_15 : decode cX12_fetchable 15 = .ok (.iand, 1) := by decide +kernel
theorem dX12_fetchable_16 : decode cX12_fetchable 16 = .ok (.aload_n 0, 1) := by decide +kernel
theorem dX12_fetchable_17 : decode cX12_fetchable 17 = .ok (.getfield 467, 3) := by decide +kernel
theorem dX12_fetchable_20 : decode cX12_fetchable 20 = .ok (.iconst (-1), 1) := by decide +kernel
theorem dX12_fetchable_21 : decode cX12_fetchable 21 = .ok (.if_icmp .ne 7, 3) := by decide +kernel
theorem dX12_fetchable_24 : decode cX12_fetchable 24 = .ok (.iconst 0, 1) := by decide +kernel
theorem dX12_fetchable_25 : decode cX12_fetchable 25 = .ok (.goto 9, 3) := by decide +kernel
theorem dX12_fetchable_28 : decode cX12_fetchable 28 = .ok (.iconst 1, 1) := by decide +kernel
theorem dX12_fetchable_29 : decode cX12_fetchable 29 = .ok (.aload_n 0, 1) := by decide +kernel
theorem dX12_fetchable_30 : decode cX12_fetchable 30 = .ok (.getfield 467, 3) := by decide +kernel
theorem dX12_fetchable_33 : decode cX12_fetchable 33 = .ok (.ishl, 1) := by decide +kernel
theorem dX12_fetchable_34 : decode cX12_fetchable 34 = .ok (.iconst (-1), 1) := by decide +kernel
theorem dX12_fetchable_35 : decode cX12_fetchable 35 = .ok (.ixor, 1) := by decide +kernel
theorem dX12_fetchable_36 : decode cX12_fetchable 36 = .ok (.iand, 1) := by decide +kernel
theorem dX12_fetchable_37 : decode cX12_fetchable 37 = .ok (.ireturn, 1) := by decide +kernel
theorem dX12_plans_0 : decode cX12_plans 0 = .ok (.iconst 0, 1) := by decide +kernel
theorem dX12_plans_1 : decode cX12_plans 1 = .ok (.istore_n 1, 1) := by decide +kernel
theorem dX12_plans_2 : decode cX12_plans 2 = .ok (.iload_n 1, 1) := by decide +kernel
theorem dX12_plans_3 : decode cX12_plans 3 = .ok (.aload_n 0, 1) := by decide +kernel
theorem dX12_plans_4 : decode cX12_plans 4 = .ok (.getfield 118, 3) := by decide +kernel
theorem dX12_plans_7 : decode cX12_plans 7 = .ok (.arraylength, 1) := by decide +kernel
theorem dX12_plans_8 : decode cX12_plans 8 = .ok (.if_icmp .ge 16, 3) := by decide +kernel
theorem dX12_plans_11 : decode cX12_plans 11 = .ok (.aload_n 0, 1) := by decide +kernel
theorem dX12_plans_12 : decode cX12_plans 12 = .ok (.getfield 118, 3) := by decide +kernel
theorem dX12_plans_15 : decode cX12_plans 15 = .ok (.iload_n 1, 1) := by decide +kernel
theorem dX12_plans_16 : decode cX12_plans 16 = .ok (.iconst (-1), 1) := by decide +kernel
theorem dX12_plans_17 : decode cX12_plans 17 = .ok (.iastore, 1) := by decide +kernel
theorem dX12_plans_18 : decode cX12_plans 18 = .ok (.iinc 1 1, 3) := by decide +kernel
theorem dX12_plans_21 : decode cX12_plans 21 = .ok (.goto (-19), 3) := by decide +kernel
theorem dX12_plans_24 : decode cX12_plans 24 = .ok (.iconst 0, 1) := by decide +kernel
theorem dX12_plans_25 : decode cX12_plans 25 = .ok (.istore_n 1, 1) := by decide +kernel
theorem dX12_plans_26 : decode cX12_plans 26 = .ok (.iload_n 1, 1) := by decide +kernel
theorem dX12_plans_27 : decode cX12_plans 27 = .ok (.aload_n 0, 1) := by decide +kernel
theorem dX12_plans_28 : decode cX12_plans 28 = .ok (.getfield 77, 3) := by decide +kernel
theorem dX12_plans_31 : decode cX12_plans 31 = .ok (.iconst 0, 1) := by decide +kernel
theorem dX12_plans_32 : decode cX12_plans 32 = .ok (.iaload, 1) := by decide +kernel
theorem dX12_plans_33 : decode cX12_plans 33 = .ok (.if_icmp .ge 184, 3) := by decide +kernel
theorem dX12_plans_36 : decode cX12_plans 36 = .ok (.iconst 0, 1) := by decide +kernel
theorem dX12_plans_37 : decode cX12_plans 37 = .ok (.istore_n 2, 1) := by decide +kernel
theorem dX12_plans_38 : decode cX12_plans 38 = .ok (.iload_n 2, 1) := by decide +kernel
theorem dX12_plans_39 : decode cX12_plans 39 = .ok (.sipush 256, 3) := by decide +kernel
theorem dX12_plans_42 : decode cX12_plans 42 = .ok (.if_icmp .ge 169, 3) := by decide +kernel
theorem dX12_plans_45 : decode cX12_plans 45 = .ok (.iload_n 1, 1) := by decide +kernel
theorem dX12_plans_46 : decode cX12_plans 46 = .ok (.ifCond .ne 29, 3) := by decide +kernel
theorem dX12_plans_49 : decode cX12_plans 49 = .ok (.iload_n 2, 1) := by decide +kernel
theorem dX12_plans_50 : decode cX12_plans 50 = .ok (.aload_n 0, 1) := by decide +kernel
theorem dX12_plans_51 : decode cX12_plans 51 = .ok (.getfield 464, 3) := by decide +kernel
theorem dX12_plans_54 : decode cX12_plans 54 = .ok (.if_icmp .ne 17, 3) := by decide +kernel
theorem dX12_plans_57 : decode cX12_plans 57 = .ok (.aload_n 0, 1) := by decide +kernel
theorem dX12_plans_58 : decode cX12_plans 58 = .ok (.getfield 476, 3) := by decide +kernel
theorem dX12_plans_61 : decode cX12_plans 61 = .ok (.ifCond .lt 10, 3) := by decide +kernel
theorem dX12_plans_64 : decode cX12_plans 64 = .ok (.aload_n 0, 1) := by decide +kernel
theorem dX12_plans_65 : decode cX12_plans 65 = .ok (.getfield 476, 3) := by decide +kernel
theorem dX12_plans_68 : decode cX12_plans 68 = .ok (.goto 21, 3) := by decide +kernel
theorem dX12_plans_71 : decode cX12_plans 71 = .ok (.iconst (-1), 1) := by decide +kernel
theorem dX12_plans_72 : decode cX12_plans 72 = .ok (.goto 17, 3) := by decide +kernel
theorem dX12_plans_75 : decode cX12_plans 75 = .ok (.aload_n 0, 1) := by decide +kernel
theorem dX12_plans_76 : decode cX12_plans 76 = .ok (.getfield 118, 3) := by decide +kernel
theorem dX12_plans_79 : decode cX12_plans 79 = .ok (.sipush 256, 3) := by decide +kernel
theorem dX12_plans_82 : decode cX12_plans 82 = .ok (.iload_n 1, 1) := by decide +kernel
theorem dX12_plans_83 : decode cX12_plans 83 = .ok (.iconst 1, 1) := by decide +kernel
theorem dX12_plans_84 : decode cX12_plans 84 = .ok (.isub, 1) := by decide +kernel
theorem dX12_plans_85 : decode cX12_plans 85 = .ok (.imul, 1) := by decide +kernel
theorem dX12_plans_86 : decode cX12_plans 86 = .ok (.iload_n 2, 1) := by decide +kernel
theorem dX12_plans_87 : decode cX12_plans 87 = .ok (.iadd, 1) := by decide +kernel
theorem dX12_plans_88 : decode cX12_plans 88 = .ok (.iaload, 1) := by decide +kernel
theorem dX12_plans_89 : decode cX12_plans 89 = .ok (.istore_n 3, 1) := by decide +kernel
theorem dX12_plans_90 : decode cX12_plans 90 = .ok (.iload_n 3, 1) := by decide +kernel
theorem dX12_plans_91 : decode cX12_plans 91 = .ok (.iconst (-1), 1) := by decide +kernel
theorem dX12_plans_92 : decode cX12_plans 92 = .ok (.if_icmp .eq 113, 3) := by decide +kernel
theorem dX12_plans_95 : decode cX12_plans 95 = .ok (.aload_n 0, 1) := by decide +kernel
theorem dX12_plans_96 : decode cX12_plans 96 = .ok (.iload_n 2, 1) := by decide +kernel
theorem dX12_plans_97 : decode cX12_plans 97 = .ok (.iload_n 1, 1) := by decide +kernel
theorem dX12_plans_98 : decode cX12_plans 98 = .ok (.invokevirtual 482, 3) := by decide +kernel
theorem dX12_plans_101 : decode cX12_plans 101 = .ok (.istore 4, 2) := by decide +kernel
theorem dX12_plans_103 : decode cX12_plans 103 = .ok (.iload 4, 2) := by decide +kernel
theorem dX12_plans_105 : decode cX12_plans 105 = .ok (.istore 5, 2) := by decide +kernel
theorem dX12_plans_107 : decode cX12_plans 107 = .ok (.iconst 1, 1) := by decide +kernel
theorem dX12_plans_108 : decode cX12_plans 108 = .ok (.istore 6, 2) := by decide +kernel
theorem dX12_plans_110 : decode cX12_plans 110 = .ok (.iload 6, 2) := by decide +kernel
theorem dX12_plans_112 : decode cX12_plans 112 = .ok (.ifCond .eq 93, 3) := by decide +kernel
theorem dX12_plans_115 : decode cX12_plans 115 = .ok (.iload_n 2, 1) := by decide +kernel
theorem dX12_plans_116 : decode cX12_plans 116 = .ok (.iload 5, 2) := by decide +kernel
theorem dX12_plans_118 : decode cX12_plans 118 = .ok (.ior, 1) := by decide +kernel
theorem dX12_plans_119 : decode cX12_plans 119 = .ok (.istore 7, 2) := by decide +kernel
theorem dX12_plans_121 : decode cX12_plans 121 = .ok (.aload_n 0, 1) := by decide +kernel
theorem dX12_plans_122 : decode cX12_plans 122 = .ok (.iload_n 3, 1) := by decide +kernel
theorem dX12_plans_123 : decode cX12_plans 123 = .ok (.iload_n 2, 1) := by decide +kernel
theorem dX12_plans_124 : decode cX12_plans 124 = .ok (.iload 7, 2) := by decide +kernel
theorem dX12_plans_126 : decode cX12_plans 126 = .ok (.iload_n 1, 1) := by decide +kernel
theorem dX12_plans_127 : decode cX12_plans 127 = .ok (.invokevirtual 485, 3) := by decide +kernel
theorem dX12_plans_130 : decode cX12_plans 130 = .ok (.istore 8, 2) := by decide +kernel
theorem dX12_plans_132 : decode cX12_plans 132 = .ok (.aload_n 0, 1) := by decide +kernel
theorem dX12_plans_133 : decode cX12_plans 133 = .ok (.getfield 118, 3) := by decide +kernel
theorem dX12_plans_136 : decode cX12_plans 136 = .ok (.sipush 256, 3) := by decide +kernel
theorem dX12_plans_139 : decode cX12_plans 139 = .ok (.iload_n 1, 1) := by decide +kernel
theorem dX12_plans_140 : decode cX12_plans 140 = .ok (.imul, 1) := by decide +kernel
theorem dX12_plans_141 : decode cX12_plans 141 = .ok (.iload 7, 2) := by decide +kernel
theorem dX12_plans_143 : decode cX12_plans 143 = .ok (.iadd, 1) := by decide +kernel
theorem dX12_plans_144 : decode cX12_plans 144 = .ok (.iload 8, 2) := by decide +kernel
theorem dX12_plans_146 : decode cX12_plans 146 = .ok (.aload_n 0, 1) := by decide +kernel
theorem dX12_plans_147 : decode cX12_plans 147 = .ok (.getfield 118, 3) := by decide +kernel
theorem dX12_plans_150 : decode cX12_plans 150 = .ok (.sipush 256, 3) := by decide +kernel
theorem dX12_plans_153 : decode cX12_plans 153 = .ok (.iload_n 1, 1) := by decide +kernel
theorem dX12_plans_154 : decode cX12_plans 154 = .ok (.imul, 1) := by decide +kernel
theorem dX12_plans_155 : decode cX12_plans 155 = .ok (.iload 7, 2) := by decide +kernel
theorem dX12_plans_157 : decode cX12_plans 157 = .ok (.iadd, 1) := by decide +kernel
theorem dX12_plans_158 : decode cX12_plans 158 = .ok (.iaload, 1) := by decide +kernel
theorem dX12_plans_159 : decode cX12_plans 159 = .ok (.if_icmp .le 8, 3) := by decide +kernel
theorem dX12_plans_162 : decode cX12_plans 162 = .ok (.iload 8, 2) := by decide +kernel
theorem dX12_plans_164 : decode cX12_plans 164 = .ok (.goto 16, 3) := by decide +kernel
theorem dX12_plans_167 : decode cX12_plans 167 = .ok (.aload_n 0, 1) := by decide +kernel
theorem dX12_plans_168 : decode cX12_plans 168 = .ok (.getfield 118, 3) := by decide +kernel
theorem dX12_plans_171 : decode cX12_plans 171 = .ok (.sipush 256, 3) := by decide +kernel
theorem dX12_plans_174 : decode cX12_plans 174 = .ok (.iload_n 1, 1) := by decide +kernel
theorem dX12_plans_175 : decode cX12_plans 175 = .ok (.imul, 1) := by decide +kernel
theorem dX12_plans_176 : decode cX12_plans 176 = .ok (.iload 7, 2) := by decide +kernel
theorem dX12_plans_178 : decode cX12_plans 178 = .ok (.iadd, 1) := by decide +kernel
theorem dX12_plans_179 : decode cX12_plans 179 = .ok (.iaload, 1) := by decide +kernel
theorem dX12_plans_180 : decode cX12_plans 180 = .ok (.iastore, 1) := by decide +kernel
theorem dX12_plans_181 : decode cX12_plans 181 = .ok (.iload 5, 2) := by decide +kernel
theorem dX12_plans_183 : decode cX12_plans 183 = .ok (.ifCond .eq 7, 3) := by decide +kernel
theorem dX12_plans_186 : decode cX12_plans 186 = .ok (.iconst 1, 1) := by decide +kernel
theorem dX12_plans_187 : decode cX12_plans 187 = .ok (.goto 4, 3) := by decide +kernel
theorem dX12_plans_190 : decode cX12_plans 190 = .ok (.iconst 0, 1) := by decide +kernel
theorem dX12_plans_191 : decode cX12_plans 191 = .ok (.istore 6, 2) := by decide +kernel
theorem dX12_plans_193 : decode cX12_plans 193 = .ok (.iload 5, 2) := by decide +kernel
theorem dX12_plans_195 : decode cX12_plans 195 = .ok (.iconst 1, 1) := by decide +kernel
theorem dX12_plans_196 : decode cX12_plans 196 = .ok (.isub, 1) := by decide +kernel
theorem dX12_plans_197 : decode cX12_plans 197 = .ok (.iload 4, 2) := by decide +kernel
theorem dX12_plans_199 : decode cX12_plans 199 = .ok (.iand, 1) := by decide +kernel
theorem dX12_plans_200 : decode cX12_plans 200 = .ok (.istore 5, 2) := by decide +kernel
theorem dX12_plans_202 : decode cX12_plans 202 = .ok (.goto (-92), 3) := by decide +kernel
theorem dX12_plans_205 : decode cX12_plans 205 = .ok (.iinc 2 1, 3) := by decide +kernel
theorem dX12_plans_208 : decode cX12_plans 208 = .ok (.goto (-170), 3) := by decide +kernel
theorem dX12_plans_211 : decode cX12_plans 211 = .ok (.iinc 1 1, 3) := by decide +kernel
theorem dX12_plans_214 : decode cX12_plans 214 = .ok (.goto (-188), 3) := by decide +kernel
theorem dX12_plans_217 : decode cX12_plans 217 = .ok (.return_, 1) := by decide +kernel
theorem dX12_planned_0 : decode cX12_planned 0 = .ok (.aload_n 0, 1) := by decide +kernel
theorem dX12_planned_1 : decode cX12_planned 1 = .ok (.getfield 118, 3) := by decide +kernel
theorem dX12_planned_4 : decode cX12_planned 4 = .ok (.sipush 256, 3) := by decide +kernel
theorem dX12_planned_7 : decode cX12_planned 7 = .ok (.aload_n 0, 1) := by decide +kernel
theorem dX12_planned_8 : decode cX12_planned 8 = .ok (.getfield 77, 3) := by decide +kernel
theorem dX12_planned_11 : decode cX12_planned 11 = .ok (.iconst 0, 1) := by decide +kernel
theorem dX12_planned_12 : decode cX12_planned 12 = .ok (.iaload, 1) := by decide +kernel
theorem dX12_planned_13 : decode cX12_planned 13 = .ok (.iconst 1, 1) := by decide +kernel
theorem dX12_planned_14 : decode cX12_planned 14 = .ok (.isub, 1) := by decide +kernel
theorem dX12_planned_15 : decode cX12_planned 15 = .ok (.imul, 1) := by decide +kernel
theorem dX12_planned_16 : decode cX12_planned 16 = .ok (.iload_n 1, 1) := by decide +kernel
theorem dX12_planned_17 : decode cX12_planned 17 = .ok (.iadd, 1) := by decide +kernel
theorem dX12_planned_18 : decode cX12_planned 18 = .ok (.iaload, 1) := by decide +kernel
theorem dX12_planned_19 : decode cX12_planned 19 = .ok (.ireturn, 1) := by decide +kernel
theorem dX12_atEnd_0 : decode cX12_atEnd 0 = .ok (.iconst (-1), 1) := by decide +kernel
theorem dX12_atEnd_1 : decode cX12_atEnd 1 = .ok (.istore_n 1, 1) := by decide +kernel
theorem dX12_atEnd_2 : decode cX12_atEnd 2 = .ok (.iconst 0, 1) := by decide +kernel
theorem dX12_atEnd_3 : decode cX12_atEnd 3 = .ok (.istore_n 2, 1) := by decide +kernel
theorem dX12_atEnd_4 : decode cX12_atEnd 4 = .ok (.iload_n 2, 1) := by decide +kernel
theorem dX12_atEnd_5 : decode cX12_atEnd 5 = .ok (.sipush 256, 3) := by decide +kernel
theorem dX12_atEnd_8 : decode cX12_atEnd 8 = .ok (.if_icmp .ge 42, 3) := by decide +kernel
theorem dX12_atEnd_11 : decode cX12_atEnd 11 = .ok (.aload_n 0, 1) := by decide +kernel
theorem dX12_atEnd_12 : decode cX12_atEnd 12 = .ok (.iload_n 2, 1) := by decide +kernel
theorem dX12_atEnd_13 : decode cX12_atEnd 13 = .ok (.invokevirtual 488, 3) := by decide +kernel
theorem dX12_atEnd_16 : decode cX12_atEnd 16 = .ok (.iconst (-1), 1) := by decide +kernel
theorem dX12_atEnd_17 : decode cX12_atEnd 17 = .ok (.if_icmp .eq 25, 3) := by decide +kernel
theorem dX12_atEnd_20 : decode cX12_atEnd 20 = .ok (.iload_n 1, 1) := by decide +kernel
theorem dX12_atEnd_21 : decode cX12_atEnd 21 = .ok (.iconst (-1), 1) := by decide +kernel
theorem dX12_atEnd_22 : decode cX12_atEnd 22 = .ok (.if_icmp .eq 16, 3) := by decide +kernel
theorem dX12_atEnd_25 : decode cX12_atEnd 25 = .ok (.aload_n 0, 1) := by decide +kernel
theorem dX12_atEnd_26 : decode cX12_atEnd 26 = .ok (.iload_n 2, 1) := by decide +kernel
theorem dX12_atEnd_27 : decode cX12_atEnd 27 = .ok (.invokevirtual 488, 3) := by decide +kernel
theorem dX12_atEnd_30 : decode cX12_atEnd 30 = .ok (.aload_n 0, 1) := by decide +kernel
theorem dX12_atEnd_31 : decode cX12_atEnd 31 = .ok (.iload_n 1, 1) := by decide +kernel
theorem dX12_atEnd_32 : decode cX12_atEnd 32 = .ok (.invokevirtual 488, 3) := by decide +kernel
theorem dX12_atEnd_35 : decode cX12_atEnd 35 = .ok (.if_icmp .le 7, 3) := by decide +kernel
theorem dX12_atEnd_38 : decode cX12_atEnd 38 = .ok (.iload_n 2, 1) := by decide +kernel
theorem dX12_atEnd_39 : decode cX12_atEnd 39 = .ok (.goto 4, 3) := by decide +kernel
theorem dX12_atEnd_42 : decode cX12_atEnd 42 = .ok (.iload_n 1, 1) := by decide +kernel
theorem dX12_atEnd_43 : decode cX12_atEnd 43 = .ok (.istore_n 1, 1) := by decide +kernel
theorem dX12_atEnd_44 : decode cX12_atEnd 44 = .ok (.iinc 2 1, 3) := by decide +kernel
theorem dX12_atEnd_47 : decode cX12_atEnd 47 = .ok (.goto (-43), 3) := by decide +kernel
theorem dX12_atEnd_50 : decode cX12_atEnd 50 = .ok (.iload_n 1, 1) := by decide +kernel
theorem dX12_atEnd_51 : decode cX12_atEnd 51 = .ok (.ireturn, 1) := by decide +kernel
theorem dX12_mostCoin_0 : decode cX12_mostCoin 0 = .ok (.aload_n 0, 1) := by decide +kernel
theorem dX12_mostCoin_1 : decode cX12_mostCoin 1 = .ok (.invokevirtual 491, 3) := by decide +kernel
theorem dX12_mostCoin_4 : decode cX12_mostCoin 4 = .ok (.aload_n 0, 1) := by decide +kernel
theorem dX12_mostCoin_5 : decode cX12_mostCoin 5 = .ok (.invokevirtual 494, 3) := by decide +kernel
theorem dX12_mostCoin_8 : decode cX12_mostCoin 8 = .ok (.istore_n 1, 1) := by decide +kernel
theorem dX12_mostCoin_9 : decode cX12_mostCoin 9 = .ok (.iload_n 1, 1) := by decide +kernel
theorem dX12_mostCoin_10 : decode cX12_mostCoin 10 = .ok (.iconst (-1), 1) := by decide +kernel
theorem dX12_mostCoin_11 : decode cX12_mostCoin 11 = .ok (.if_icmp .ne 7, 3) := by decide +kernel
theorem dX12_mostCoin_14 : decode cX12_mostCoin 14 = .ok (.iconst (-1), 1) := by decide +kernel
theorem dX12_mostCoin_15 : decode cX12_mostCoin 15 = .ok (.goto 8, 3) := by decide +kernel
theorem dX12_mostCoin_18 : decode cX12_mostCoin 18 = .ok (.aload_n 0, 1) := by decide +kernel
theorem dX12_mostCoin_19 : decode cX12_mostCoin 19 = .ok (.iload_n 1, 1) := by decide +kernel
theorem dX12_mostCoin_20 : decode cX12_mostCoin 20 = .ok (.invokevirtual 488, 3) := by decide +kernel
theorem dX12_mostCoin_23 : decode cX12_mostCoin 23 = .ok (.ireturn, 1) := by decide +kernel
theorem dX12_soon_0 : decode cX12_soon 0 = .ok (.aload_n 0, 1) := by decide +kernel
theorem dX12_soon_1 : decode cX12_soon 1 = .ok (.invokevirtual 497, 3) := by decide +kernel
theorem dX12_soon_4 : decode cX12_soon 4 = .ok (.aload_n 0, 1) := by decide +kernel
theorem dX12_soon_5 : decode cX12_soon 5 = .ok (.invokevirtual 491, 3) := by decide +kernel
theorem dX12_soon_8 : decode cX12_soon 8 = .ok (.iconst 0, 1) := by decide +kernel
theorem dX12_soon_9 : decode cX12_soon 9 = .ok (.istore_n 1, 1) := by decide +kernel
theorem dX12_soon_10 : decode cX12_soon 10 = .ok (.iload_n 1, 1) := by decide +kernel
theorem dX12_soon_11 : decode cX12_soon 11 = .ok (.aload_n 0, 1) := by decide +kernel
theorem dX12_soon_12 : decode cX12_soon 12 = .ok (.getfield 77, 3) := by decide +kernel
theorem dX12_soon_15 : decode cX12_soon 15 = .ok (.iconst 0, 1) := by decide +kernel
theorem dX12_soon_16 : decode cX12_soon 16 = .ok (.iaload, 1) := by decide +kernel
theorem dX12_soon_17 : decode cX12_soon 17 = .ok (.if_icmp .ge 30, 3) := by decide +kernel
theorem dX12_soon_20 : decode cX12_soon 20 = .ok (.aload_n 0, 1) := by decide +kernel
theorem dX12_soon_21 : decode cX12_soon 21 = .ok (.getfield 118, 3) := by decide +kernel
theorem dX12_soon_24 : decode cX12_soon 24 = .ok (.sipush 256, 3) := by decide +kernel
theorem dX12_soon_27 : decode cX12_soon 27 = .ok (.iload_n 1, 1) := by decide +kernel
theorem dX12_soon_28 : decode cX12_soon 28 = .ok (.imul, 1) := by decide +kernel
theorem dX12_soon_29 : decode cX12_soon 29 = .ok (.aload_n 0, 1) := by decide +kernel
theorem dX12_soon_30 : decode cX12_soon 30 = .ok (.invokevirtual 354, 3) := by decide +kernel
theorem dX12_soon_33 : decode cX12_soon 33 = .ok (.iadd, 1) := by decide +kernel
theorem dX12_soon_34 : decode cX12_soon 34 = .ok (.iaload, 1) := by decide +kernel
theorem dX12_soon_35 : decode cX12_soon 35 = .ok (.iconst (-1), 1) := by decide +kernel
theorem dX12_soon_36 : decode cX12_soon 36 = .ok (.if_icmp .eq 5, 3) := by decide +kernel
theorem dX12_soon_39 : decode cX12_soon 39 = .ok (.iload_n 1, 1) := by decide +kernel
theorem dX12_soon_40 : decode cX12_soon 40 = .ok (.ireturn, 1) := by decide +kernel
theorem dX12_soon_41 : decode cX12_soon 41 = .ok (.iinc 1 1, 3) := by decide +kernel
theorem dX12_soon_44 : decode cX12_soon 44 = .ok (.goto (-34), 3) := by decide +kernel
theorem dX12_soon_47 : decode cX12_soon 47 = .ok (.iconst (-1), 1) := by decide +kernel
theorem dX12_soon_48 : decode cX12_soon 48 = .ok (.ireturn, 1) := by decide +kernel
theorem dX12_states_0 : decode cX12_states 0 = .ok (.iconst 0, 1) := by decide +kernel
theorem dX12_states_1 : decode cX12_states 1 = .ok (.istore_n 2, 1) := by decide +kernel
theorem dX12_states_2 : decode cX12_states 2 = .ok (.iconst 0, 1) := by decide +kernel
theorem dX12_states_3 : decode cX12_states 3 = .ok (.istore_n 3, 1) := by decide +kernel
theorem dX12_states_4 : decode cX12_states 4 = .ok (.iconst 0, 1) := by decide +kernel
theorem dX12_states_5 : decode cX12_states 5 = .ok (.istore 4, 2) := by decide +kernel
theorem dX12_states_7 : decode cX12_states 7 = .ok (.iload 4, 2) := by decide +kernel
theorem dX12_states_9 : decode cX12_states 9 = .ok (.sipush 256, 3) := by decide +kernel
theorem dX12_states_12 : decode cX12_states 12 = .ok (.aload_n 0, 1) := by decide +kernel
theorem dX12_states_13 : decode cX12_states 13 = .ok (.getfield 77, 3) := by decide +kernel
theorem dX12_states_16 : decode cX12_states 16 = .ok (.iconst 0, 1) := by decide +kernel
theorem dX12_states_17 : decode cX12_states 17 = .ok (.iaload, 1) := by decide +kernel
theorem dX12_states_18 : decode cX12_states 18 = .ok (.imul, 1) := by decide +kernel
theorem dX12_states_19 : decode cX12_states 19 = .ok (.if_icmp .ge 52, 3) := by decide +kernel
theorem dX12_states_22 : decode cX12_states 22 = .ok (.iload_n 2, 1) := by decide +kernel
theorem dX12_states_23 : decode cX12_states 23 = .ok (.aload_n 0, 1) := by decide +kernel
theorem dX12_states_24 : decode cX12_states 24 = .ok (.getfield 118, 3) := by decide +kernel
theorem dX12_states_27 : decode cX12_states 27 = .ok (.iload 4, 2) := by decide +kernel
theorem dX12_states_29 : decode cX12_states 29 = .ok (.iaload, 1) := by decide +kernel
theorem dX12_states_30 : decode cX12_states 30 = .ok (.iconst (-1), 1) := by decide +kernel
theorem dX12_states_31 : decode cX12_states 31 = .ok (.if_icmp .eq 7, 3) := by decide +kernel
theorem dX12_states_34 : decode cX12_states 34 = .ok (.iconst 1, 1) := by decide +kernel
theorem dX12_states_35 : decode cX12_states 35 = .ok (.goto 4, 3) := by decide +kernel
theorem dX12_states_38 : decode cX12_states 38 = .ok (.iconst 0, 1) := by decide +kernel
theorem dX12_states_39 : decode cX12_states 39 = .ok (.iadd, 1) := by decide +kernel
theorem dX12_states_40 : decode cX12_states 40 = .ok (.istore_n 2, 1) := by decide +kernel
theorem dX12_states_41 : decode cX12_states 41 = .ok (.iload_n 3, 1) := by decide +kernel
theorem dX12_states_42 : decode cX12_states 42 = .ok (.aload_n 0, 1) := by decide +kernel
theorem dX12_states_43 : decode cX12_states 43 = .ok (.getfield 118, 3) := by decide +kernel
theorem dX12_states_46 : decode cX12_states 46 = .ok (.iload 4, 2) := by decide +kernel
theorem dX12_states_48 : decode cX12_states 48 = .ok (.iaload, 1) := by decide +kernel
theorem dX12_states_49 : decode cX12_states 49 = .ok (.iconst (-1), 1) := by decide +kernel
theorem dX12_states_50 : decode cX12_states 50 = .ok (.if_icmp .eq 12, 3) := by decide +kernel
theorem dX12_states_53 : decode cX12_states 53 = .ok (.iload 4, 2) := by decide +kernel
theorem dX12_states_55 : decode cX12_states 55 = .ok (.sipush 256, 3) := by decide +kernel
theorem dX12_states_58 : decode cX12_states 58 = .ok (.irem, 1) := by decide +kernel
theorem dX12_states_59 : decode cX12_states 59 = .ok (.goto 4, 3) := by decide +kernel
theorem dX12_states_62 : decode cX12_states 62 = .ok (.iconst 0, 1) := by decide +kernel
theorem dX12_states_63 : decode cX12_states 63 = .ok (.ior, 1) := by decide +kernel
theorem dX12_states_64 : decode cX12_states 64 = .ok (.istore_n 3, 1) := by decide +kernel
theorem dX12_states_65 : decode cX12_states 65 = .ok (.iinc 4 1, 3) := by decide +kernel
theorem dX12_states_68 : decode cX12_states 68 = .ok (.goto (-61), 3) := by decide +kernel
theorem dX12_states_71 : decode cX12_states 71 = .ok (.iload_n 1, 1) := by decide +kernel
theorem dX12_states_72 : decode cX12_states 72 = .ok (.ifCond .eq 14, 3) := by decide +kernel
theorem dX12_states_75 : decode cX12_states 75 = .ok (.aload_n 0, 1) := by decide +kernel
theorem dX12_states_76 : decode cX12_states 76 = .ok (.invokevirtual 354, 3) := by decide +kernel
theorem dX12_states_79 : decode cX12_states 79 = .ok (.iload_n 3, 1) := by decide +kernel
theorem dX12_states_80 : decode cX12_states 80 = .ok (.iconst (-1), 1) := by decide +kernel
theorem dX12_states_81 : decode cX12_states 81 = .ok (.ixor, 1) := by decide +kernel
theorem dX12_states_82 : decode cX12_states 82 = .ok (.iand, 1) := by decide +kernel
theorem dX12_states_83 : decode cX12_states 83 = .ok (.goto 4, 3) := by decide +kernel
theorem dX12_states_86 : decode cX12_states 86 = .ok (.iload_n 2, 1) := by decide +kernel
theorem dX12_states_87 : decode cX12_states 87 = .ok (.ireturn, 1) := by decide +kernel
theorem dX12_richest_0 : decode cX12_richest 0 = .ok (.iconst (-1), 1) := by decide +kernel
theorem dX12_richest_1 : decode cX12_richest 1 = .ok (.istore_n 1, 1) := by decide +kernel
theorem dX12_richest_2 : decode cX12_richest 2 = .ok (.iconst 0, 1) := by decide +kernel
theorem dX12_richest_3 : decode cX12_richest 3 = .ok (.istore_n 2, 1) := by decide +kernel
theorem dX12_richest_4 : decode cX12_richest 4 = .ok (.iload_n 2, 1) := by decide +kernel
theorem dX12_richest_5 : decode cX12_richest 5 = .ok (.sipush 256, 3) := by decide +kernel
theorem dX12_richest_8 : decode cX12_richest 8 = .ok (.if_icmp .ge 75, 3) := by decide +kernel
theorem dX12_richest_11 : decode cX12_richest 11 = .ok (.aload_n 0, 1) := by decide +kernel
theorem dX12_richest_12 : decode cX12_richest 12 = .ok (.iload_n 2, 1) := by decide +kernel
theorem dX12_richest_13 : decode cX12_richest 13 = .ok (.invokevirtual 488, 3) := by decide +kernel
theorem dX12_richest_16 : decode cX12_richest 16 = .ok (.istore_n 3, 1) := by decide +kernel
theorem dX12_richest_17 : decode cX12_richest 17 = .ok (.iconst 0, 1) := by decide +kernel
theorem dX12_richest_18 : decode cX12_richest 18 = .ok (.istore 4, 2) := by decide +kernel
theorem dX12_richest_20 : decode cX12_richest 20 = .ok (.iload 4, 2) := by decide +kernel
theorem dX12_richest_22 : decode cX12_richest 22 = .ok (.bipush 8, 2) := by decide +kernel
theorem dX12_richest_24 : decode cX12_richest 24 = .ok (.if_icmp .ge 33, 3) := by decide +kernel
theorem dX12_richest_27 : decode cX12_richest 27 = .ok (.iload_n 3, 1) := by decide +kernel
theorem dX12_richest_28 : decode cX12_richest 28 = .ok (.iload_n 2, 1) := by decide +kernel
theorem dX12_richest_29 : decode cX12_richest 29 = .ok (.iload 4, 2) := by decide +kernel
theorem dX12_richest_31 : decode cX12_richest 31 = .ok (.ishr, 1) := by decide +kernel
theorem dX12_richest_32 : decode cX12_richest 32 = .ok (.iconst 1, 1) := by decide +kernel
theorem dX12_richest_33 : decode cX12_richest 33 = .ok (.iand, 1) := by decide +kernel
theorem dX12_richest_34 : decode cX12_richest 34 = .ok (.iconst 1, 1) := by decide +kernel
theorem dX12_richest_35 : decode cX12_richest 35 = .ok (.if_icmp .ne 13, 3) := by decide +kernel
theorem dX12_richest_38 : decode cX12_richest 38 = .ok (.aload_n 0, 1) := by decide +kernel
theorem dX12_richest_39 : decode cX12_richest 39 = .ok (.getfield 62, 3) := by decide +kernel
theorem dX12_richest_42 : decode cX12_richest 42 = .ok (.iload 4, 2) := by decide +kernel
theorem dX12_richest_44 : decode cX12_richest 44 = .ok (.iaload, 1) := by decide +kernel
theorem dX12_richest_45 : decode cX12_richest 45 = .ok (.goto 4, 3) := by decide +kernel
theorem dX12_richest_48 : decode cX12_richest 48 = .ok (.iconst 0, 1) := by decide +kernel
theorem dX12_richest_49 : decode cX12_richest 49 = .ok (.iadd, 1) := by decide +kernel
theorem dX12_richest_50 : decode cX12_richest 50 = .ok (.istore_n 3, 1) := by decide +kernel
theorem dX12_richest_51 : decode cX12_richest 51 = .ok (.iinc 4 1, 3) := by decide +kernel
theorem dX12_richest_54 : decode cX12_richest 54 = .ok (.goto (-34), 3) := by decide +kernel
theorem dX12_richest_57 : decode cX12_richest 57 = .ok (.aload_n 0, 1) := by decide +kernel
theorem dX12_richest_58 : decode cX12_richest 58 = .ok (.iload_n 2, 1) := by decide +kernel
theorem dX12_richest_59 : decode cX12_richest 59 = .ok (.invokevirtual 488, 3) := by decide +kernel
theorem dX12_richest_62 : decode cX12_richest 62 = .ok (.iconst (-1), 1) := by decide +kernel
theorem dX12_richest_63 : decode cX12_richest 63 = .ok (.if_icmp .eq 12, 3) := by decide +kernel
theorem dX12_richest_66 : decode cX12_richest 66 = .ok (.iload_n 3, 1) := by decide +kernel
theorem dX12_richest_67 : decode cX12_richest 67 = .ok (.iload_n 1, 1) := by decide +kernel
theorem dX12_richest_68 : decode cX12_richest 68 = .ok (.if_icmp .le 7, 3) := by decide +kernel
theorem dX12_richest_71 : decode cX12_richest 71 = .ok (.iload_n 3, 1) := by decide +kernel
theorem dX12_richest_72 : decode cX12_richest 72 = .ok (.goto 4, 3) := by decide +kernel
theorem dX12_richest_75 : decode cX12_richest 75 = .ok (.iload_n 1, 1) := by decide +kernel
theorem dX12_richest_76 : decode cX12_richest 76 = .ok (.istore_n 1, 1) := by decide +kernel
theorem dX12_richest_77 : decode cX12_richest 77 = .ok (.iinc 2 1, 3) := by decide +kernel
theorem dX12_richest_80 : decode cX12_richest 80 = .ok (.goto (-76), 3) := by decide +kernel
theorem dX12_richest_83 : decode cX12_richest 83 = .ok (.iload_n 1, 1) := by decide +kernel
theorem dX12_richest_84 : decode cX12_richest 84 = .ok (.ireturn, 1) := by decide +kernel
theorem dX12_best_0 : decode cX12_best 0 = .ok (.iload_n 1, 1) := by decide +kernel
theorem dX12_best_1 : decode cX12_best 1 = .ok (.i2l, 1) := by decide +kernel
theorem dX12_best_2 : decode cX12_best 2 = .ok (.lconst 0, 1) := by decide +kernel
theorem dX12_best_3 : decode cX12_best 3 = .ok (.ldc2_w 500, 3) := by decide +kernel
theorem dX12_best_6 : decode cX12_best 6 = .ok (.invokestatic 201, 3) := by decide +kernel
theorem dX12_best_9 : decode cX12_best 9 = .ok (.ifCond .ne 6, 3) := by decide +kernel
theorem dX12_best_12 : decode cX12_best 12 = .ok (.bipush (-3), 2) := by decide +kernel
theorem dX12_best_14 : decode cX12_best 14 = .ok (.ireturn, 1) := by decide +kernel
theorem dX12_best_15 : decode cX12_best 15 = .ok (.aload_n 0, 1) := by decide +kernel
theorem dX12_best_16 : decode cX12_best 16 = .ok (.invokevirtual 497, 3) := by decide +kernel
theorem dX12_best_19 : decode cX12_best 19 = .ok (.aload_n 0, 1) := by decide +kernel
theorem dX12_best_20 : decode cX12_best 20 = .ok (.invokevirtual 502, 3) := by decide +kernel
theorem dX12_best_23 : decode cX12_best 23 = .ok (.istore_n 2, 1) := by decide +kernel
theorem dX12_best_24 : decode cX12_best 24 = .ok (.iload_n 1, 1) := by decide +kernel
theorem dX12_best_25 : decode cX12_best 25 = .ok (.iconst 3, 1) := by decide +kernel
theorem dX12_best_26 : decode cX12_best 26 = .ok (.if_icmp .eq 8, 3) := by decide +kernel
theorem dX12_best_29 : decode cX12_best 29 = .ok (.iload_n 1, 1) := by decide +kernel
theorem dX12_best_30 : decode cX12_best 30 = .ok (.iconst 4, 1) := by decide +kernel
theorem dX12_best_31 : decode cX12_best 31 = .ok (.if_icmp .ne 18, 3) := by decide +kernel
theorem dX12_best_34 : decode cX12_best 34 = .ok (.aload_n 0, 1) := by decide +kernel
theorem dX12_best_35 : decode cX12_best 35 = .ok (.iload_n 1, 1) := by decide +kernel
theorem dX12_best_36 : decode cX12_best 36 = .ok (.iconst 4, 1) := by decide +kernel
theorem dX12_best_37 : decode cX12_best 37 = .ok (.if_icmp .ne 7, 3) := by decide +kernel
theorem dX12_best_40 : decode cX12_best 40 = .ok (.iconst 1, 1) := by decide +kernel
theorem dX12_best_41 : decode cX12_best 41 = .ok (.goto 4, 3) := by decide +kernel
theorem dX12_best_44 : decode cX12_best 44 = .ok (.iconst 0, 1) := by decide +kernel
theorem dX12_best_45 : decode cX12_best 45 = .ok (.invokevirtual 505, 3) := by decide +kernel
theorem dX12_best_48 : decode cX12_best 48 = .ok (.ireturn, 1) := by decide +kernel
theorem dX12_best_49 : decode cX12_best 49 = .ok (.iload_n 2, 1) := by decide +kernel
theorem dX12_best_50 : decode cX12_best 50 = .ok (.iconst (-1), 1) := by decide +kernel
theorem dX12_best_51 : decode cX12_best 51 = .ok (.if_icmp .ne 6, 3) := by decide +kernel
theorem dX12_best_54 : decode cX12_best 54 = .ok (.bipush (-2), 2) := by decide +kernel
theorem dX12_best_56 : decode cX12_best 56 = .ok (.ireturn, 1) := by decide +kernel
theorem dX12_best_57 : decode cX12_best 57 = .ok (.iload_n 1, 1) := by decide +kernel
theorem dX12_best_58 : decode cX12_best 58 = .ok (.ifCond .ne 7, 3) := by decide +kernel
theorem dX12_best_61 : decode cX12_best 61 = .ok (.iload_n 2, 1) := by decide +kernel
theorem dX12_best_62 : decode cX12_best 62 = .ok (.goto 38, 3) := by decide +kernel
theorem dX12_best_65 : decode cX12_best 65 = .ok (.iload_n 1, 1) := by decide +kernel
theorem dX12_best_66 : decode cX12_best 66 = .ok (.iconst 1, 1) := by decide +kernel
theorem dX12_best_67 : decode cX12_best 67 = .ok (.if_icmp .ne 10, 3) := by decide +kernel
theorem dX12_best_70 : decode cX12_best 70 = .ok (.aload_n 0, 1) := by decide +kernel
theorem dX12_best_71 : decode cX12_best 71 = .ok (.invokevirtual 494, 3) := by decide +kernel
theorem dX12_best_74 : decode cX12_best 74 = .ok (.goto 26, 3) := by decide +kernel
theorem dX12_best_77 : decode cX12_best 77 = .ok (.iload_n 1, 1) := by decide +kernel
theorem dX12_best_78 : decode cX12_best 78 = .ok (.iconst 2, 1) := by decide +kernel
theorem dX12_best_79 : decode cX12_best 79 = .ok (.if_icmp .ne 10, 3) := by decide +kernel
theorem dX12_best_82 : decode cX12_best 82 = .ok (.aload_n 0, 1) := by decide +kernel
theorem dX12_best_83 : decode cX12_best 83 = .ok (.invokevirtual 509, 3) := by decide +kernel
theorem dX12_best_86 : decode cX12_best 86 = .ok (.goto 14, 3) := by decide +kernel
theorem dX12_best_89 : decode cX12_best 89 = .ok (.aload_n 0, 1) := by decide +kernel
theorem dX12_best_90 : decode cX12_best 90 = .ok (.invokevirtual 354, 3) := by decide +kernel
theorem dX12_best_93 : decode cX12_best 93 = .ok (.aload_n 0, 1) := by decide +kernel
theorem dX12_best_94 : decode cX12_best 94 = .ok (.invokevirtual 494, 3) := by decide +kernel
theorem dX12_best_97 : decode cX12_best 97 = .ok (.iconst (-1), 1) := by decide +kernel
theorem dX12_best_98 : decode cX12_best 98 = .ok (.ixor, 1) := by decide +kernel
theorem dX12_best_99 : decode cX12_best 99 = .ok (.iand, 1) := by decide +kernel
theorem dX12_best_100 : decode cX12_best 100 = .ok (.ireturn, 1) := by decide +kernel
theorem dX12_goesBack_0 : decode cX12_goesBack 0 = .ok (.aload_n 0, 1) := by decide +kernel
theorem dX12_goesBack_1 : decode cX12_goesBack 1 = .ok (.invokevirtual 494, 3) := by decide +kernel
theorem dX12_goesBack_4 : decode cX12_goesBack 4 = .ok (.istore_n 1, 1) := by decide +kernel
theorem dX12_goesBack_5 : decode cX12_goesBack 5 = .ok (.aload_n 0, 1) := by decide +kernel
theorem dX12_goesBack_6 : decode cX12_goesBack 6 = .ok (.getfield 77, 3) := by decide +kernel
theorem dX12_goesBack_9 : decode cX12_goesBack 9 = .ok (.iconst 0, 1) := by decide +kernel
theorem dX12_goesBack_10 : decode cX12_goesBack 10 = .ok (.iaload, 1) := by decide +kernel
theorem dX12_goesBack_11 : decode cX12_goesBack 11 = .ok (.iconst 1, 1) := by decide +kernel
theorem dX12_goesBack_12 : decode cX12_goesBack 12 = .ok (.isub, 1) := by decide +kernel
theorem dX12_goesBack_13 : decode cX12_goesBack 13 = .ok (.istore_n 2, 1) := by decide +kernel
theorem dX12_goesBack_14 : decode cX12_goesBack 14 = .ok (.iload_n 2, 1) := by decide +kernel
theorem dX12_goesBack_15 : decode cX12_goesBack 15 = .ok (.ifCond .lt 135, 3) := by decide +kernel
theorem dX12_goesBack_18 : decode cX12_goesBack 18 = .ok (.aload_n 0, 1) := by decide +kernel
theorem dX12_goesBack_19 : decode cX12_goesBack 19 = .ok (.getfield 121, 3) := by decide +kernel
theorem dX12_goesBack_22 : decode cX12_goesBack 22 = .ok (.iload_n 2, 1) := by decide +kernel
theorem dX12_goesBack_23 : decode cX12_goesBack 23 = .ok (.iload_n 1, 1) := by decide +kernel
theorem dX12_goesBack_24 : decode cX12_goesBack 24 = .ok (.iastore, 1) := by decide +kernel
theorem dX12_goesBack_25 : decode cX12_goesBack 25 = .ok (.iconst 0, 1) := by decide +kernel
theorem dX12_goesBack_26 : decode cX12_goesBack 26 = .ok (.istore_n 3, 1) := by decide +kernel
theorem dX12_goesBack_27 : decode cX12_goesBack 27 = .ok (.sipush 255, 3) := by decide +kernel
theorem dX12_goesBack_30 : decode cX12_goesBack 30 = .ok (.istore 4, 2) := by decide +kernel
theorem dX12_goesBack_32 : decode cX12_goesBack 32 = .ok (.iload 4, 2) := by decide +kernel
theorem dX12_goesBack_34 : decode cX12_goesBack 34 = .ok (.ifCond .lt 108, 3) := by decide +kernel
theorem dX12_goesBack_37 : decode cX12_goesBack 37 = .ok (.iload_n 2, 1) := by decide +kernel
theorem dX12_goesBack_38 : decode cX12_goesBack 38 = .ok (.ifCond .le 104, 3) := by decide +kernel
theorem dX12_goesBack_41 : decode cX12_goesBack 41 = .ok (.aload_n 0, 1) := by decide +kernel
theorem dX12_goesBack_42 : decode cX12_goesBack 42 = .ok (.getfield 118, 3) := by decide +kernel
theorem dX12_goesBack_45 : decode cX12_goesBack 45 = .ok (.sipush 256, 3) := by decide +kernel
theorem dX12_goesBack_48 : decode cX12_goesBack 48 = .ok (.iload_n 2, 1) := by decide +kernel
theorem dX12_goesBack_49 : decode cX12_goesBack 49 = .ok (.iconst 1, 1) := by decide +kernel
theorem dX12_goesBack_50 : decode cX12_goesBack 50 = .ok (.isub, 1) := by decide +kernel
theorem dX12_goesBack_51 : decode cX12_goesBack 51 = .ok (.imul, 1) := by decide +kernel
theorem dX12_goesBack_52 : decode cX12_goesBack 52 = .ok (.iload 4, 2) := by decide +kernel
theorem dX12_goesBack_54 : decode cX12_goesBack 54 = .ok (.iadd, 1) := by decide +kernel
theorem dX12_goesBack_55 : decode cX12_goesBack 55 = .ok (.iaload, 1) := by decide +kernel
theorem dX12_goesBack_56 : decode cX12_goesBack 56 = .ok (.istore 5, 2) := by decide +kernel
theorem dX12_goesBack_58 : decode cX12_goesBack 58 = .ok (.iload 5, 2) := by decide +kernel
theorem dX12_goesBack_60 : decode cX12_goesBack 60 = .ok (.iconst (-1), 1) := by decide +kernel
theorem dX12_goesBack_61 : decode cX12_goesBack 61 = .ok (.if_icmp .eq 35, 3) := by decide +kernel
theorem dX12_goesBack_64 : decode cX12_goesBack 64 = .ok (.iload 4, 2) := by decide +kernel
theorem dX12_goesBack_66 : decode cX12_goesBack 66 = .ok (.iload_n 1, 1) := by decide +kernel
theorem dX12_goesBack_67 : decode cX12_goesBack 67 = .ok (.iconst (-1), 1) := by decide +kernel
theorem dX12_goesBack_68 : decode cX12_goesBack 68 = .ok (.ixor, 1) := by decide +kernel
theorem dX12_goesBack_69 : decode cX12_goesBack 69 = .ok (.iand, 1) := by decide +kernel
theorem dX12_goesBack_70 : decode cX12_goesBack 70 = .ok (.ifCond .ne 26, 3) := by decide +kernel
theorem dX12_goesBack_73 : decode cX12_goesBack 73 = .ok (.iload_n 1, 1) := by decide +kernel
theorem dX12_goesBack_74 : decode cX12_goesBack 74 = .ok (.iload 4, 2) := by decide +kernel
theorem dX12_goesBack_76 : decode cX12_goesBack 76 = .ok (.iconst (-1), 1) := by decide +kernel
theorem dX12_goesBack_77 : decode cX12_goesBack 77 = .ok (.ixor, 1) := by decide +kernel
theorem dX12_goesBack_78 : decode cX12_goesBack 78 = .ok (.iand, 1) := by decide +kernel
theorem dX12_goesBack_79 : decode cX12_goesBack 79 = .ok (.aload_n 0, 1) := by decide +kernel
theorem dX12_goesBack_80 : decode cX12_goesBack 80 = .ok (.iload 4, 2) := by decide +kernel
theorem dX12_goesBack_82 : decode cX12_goesBack 82 = .ok (.iload_n 2, 1) := by decide +kernel
theorem dX12_goesBack_83 : decode cX12_goesBack 83 = .ok (.invokevirtual 482, 3) := by decide +kernel
theorem dX12_goesBack_86 : decode cX12_goesBack 86 = .ok (.iconst (-1), 1) := by decide +kernel
theorem dX12_goesBack_87 : decode cX12_goesBack 87 = .ok (.ixor, 1) := by decide +kernel
theorem dX12_goesBack_88 : decode cX12_goesBack 88 = .ok (.iand, 1) := by decide +kernel
theorem dX12_goesBack_89 : decode cX12_goesBack 89 = .ok (.ifCond .ne 7, 3) := by decide +kernel
theorem dX12_goesBack_92 : decode cX12_goesBack 92 = .ok (.iconst 1, 1) := by decide +kernel
theorem dX12_goesBack_93 : decode cX12_goesBack 93 = .ok (.goto 4, 3) := by decide +kernel
theorem dX12_goesBack_96 : decode cX12_goesBack 96 = .ok (.iconst 0, 1) := by decide +kernel
theorem dX12_goesBack_97 : decode cX12_goesBack 97 = .ok (.istore 6, 2) := by decide +kernel
theorem dX12_goesBack_99 : decode cX12_goesBack 99 = .ok (.iload 6, 2) := by decide +kernel
theorem dX12_goesBack_101 : decode cX12_goesBack 101 = .ok (.ifCond .eq 33, 3) := by decide +kernel
theorem dX12_goesBack_104 : decode cX12_goesBack 104 = .ok (.aload_n 0, 1) := by decide +kernel
theorem dX12_goesBack_105 : decode cX12_goesBack 105 = .ok (.iload 5, 2) := by decide +kernel
theorem dX12_goesBack_107 : decode cX12_goesBack 107 = .ok (.iload 4, 2) := by decide +kernel
theorem dX12_goesBack_109 : decode cX12_goesBack 109 = .ok (.iload_n 1, 1) := by decide +kernel
theorem dX12_goesBack_110 : decode cX12_goesBack 110 = .ok (.iload_n 2, 1) := by decide +kernel
theorem dX12_goesBack_111 : decode cX12_goesBack 111 = .ok (.invokevirtual 485, 3) := by decide +kernel
theorem dX12_goesBack_114 : decode cX12_goesBack 114 = .ok (.aload_n 0, 1) := by decide +kernel
theorem dX12_goesBack_115 : decode cX12_goesBack 115 = .ok (.getfield 118, 3) := by decide +kernel
theorem dX12_goesBack_118 : decode cX12_goesBack 118 = .ok (.sipush 256, 3) := by decide +kernel
theorem dX12_goesBack_121 : decode cX12_goesBack 121 = .ok (.iload_n 2, 1) := by decide +kernel
theorem dX12_goesBack_122 : decode cX12_goesBack 122 = .ok (.imul, 1) := by decide +kernel
theorem dX12_goesBack_123 : decode cX12_goesBack 123 = .ok (.iload_n 1, 1) := by decide +kernel
theorem dX12_goesBack_124 : decode cX12_goesBack 124 = .ok (.iadd, 1) := by decide +kernel
theorem dX12_goesBack_125 : decode cX12_goesBack 125 = .ok (.iaload, 1) := by decide +kernel
theorem dX12_goesBack_126 : decode cX12_goesBack 126 = .ok (.if_icmp .ne 8, 3) := by decide +kernel
theorem dX12_goesBack_129 : decode cX12_goesBack 129 = .ok (.iload 4, 2) := by decide +kernel
theorem dX12_goesBack_131 : decode cX12_goesBack 131 = .ok (.goto 4, 3) := by decide +kernel
theorem dX12_goesBack_134 : decode cX12_goesBack 134 = .ok (.iload_n 3, 1) := by decide +kernel
theorem dX12_goesBack_135 : decode cX12_goesBack 135 = .ok (.istore_n 3, 1) := by decide +kernel
theorem dX12_goesBack_136 : decode cX12_goesBack 136 = .ok (.iinc 4 (-1), 3) := by decide +kernel
theorem dX12_goesBack_139 : decode cX12_goesBack 139 = .ok (.goto (-107), 3) := by decide +kernel
theorem dX12_goesBack_142 : decode cX12_goesBack 142 = .ok (.iload_n 3, 1) := by decide +kernel
theorem dX12_goesBack_143 : decode cX12_goesBack 143 = .ok (.istore_n 1, 1) := by decide +kernel
theorem dX12_goesBack_144 : decode cX12_goesBack 144 = .ok (.iinc 2 (-1), 3) := by decide +kernel
theorem dX12_goesBack_147 : decode cX12_goesBack 147 = .ok (.goto (-133), 3) := by decide +kernel
theorem dX12_goesBack_150 : decode cX12_goesBack 150 = .ok (.return_, 1) := by decide +kernel
theorem dX12_fetched_0 : decode cX12_fetched 0 = .ok (.aload_n 0, 1) := by decide +kernel
theorem dX12_fetched_1 : decode cX12_fetched 1 = .ok (.iload_n 1, 1) := by decide +kernel
theorem dX12_fetched_2 : decode cX12_fetched 2 = .ok (.invokevirtual 375, 3) := by decide +kernel
theorem dX12_fetched_5 : decode cX12_fetched 5 = .ok (.ifCond .ne 6, 3) := by decide +kernel
theorem dX12_fetched_8 : decode cX12_fetched 8 = .ok (.bipush (-3), 2) := by decide +kernel
theorem dX12_fetched_10 : decode cX12_fetched 10 = .ok (.ireturn, 1) := by decide +kernel
theorem dX12_fetched_11 : decode cX12_fetched 11 = .ok (.aload_n 0, 1) := by decide +kernel
theorem dX12_fetched_12 : decode cX12_fetched 12 = .ok (.invokevirtual 497, 3) := by decide +kernel
theorem dX12_fetched_15 : decode cX12_fetched 15 = .ok (.aload_n 0, 1) := by decide +kernel
theorem dX12_fetched_16 : decode cX12_fetched 16 = .ok (.invokevirtual 502, 3) := by decide +kernel
theorem dX12_fetched_19 : decode cX12_fetched 19 = .ok (.iconst (-1), 1) := by decide +kernel
theorem dX12_fetched_20 : decode cX12_fetched 20 = .ok (.if_icmp .ne 6, 3) := by decide +kernel
theorem dX12_fetched_23 : decode cX12_fetched 23 = .ok (.bipush (-2), 2) := by decide +kernel
theorem dX12_fetched_25 : decode cX12_fetched 25 = .ok (.ireturn, 1) := by decide +kernel
theorem dX12_fetched_26 : decode cX12_fetched 26 = .ok (.aload_n 0, 1) := by decide +kernel
theorem dX12_fetched_27 : decode cX12_fetched 27 = .ok (.invokevirtual 512, 3) := by decide +kernel
theorem dX12_fetched_30 : decode cX12_fetched 30 = .ok (.iconst 0, 1) := by decide +kernel
theorem dX12_fetched_31 : decode cX12_fetched 31 = .ok (.istore_n 2, 1) := by decide +kernel
theorem dX12_fetched_32 : decode cX12_fetched 32 = .ok (.iload_n 2, 1) := by decide +kernel
theorem dX12_fetched_33 : decode cX12_fetched 33 = .ok (.aload_n 0, 1) := by decide +kernel
theorem dX12_fetched_34 : decode cX12_fetched 34 = .ok (.getfield 77, 3) := by decide +kernel
theorem dX12_fetched_37 : decode cX12_fetched 37 = .ok (.iconst 0, 1) := by decide +kernel
theorem dX12_fetched_38 : decode cX12_fetched 38 = .ok (.iaload, 1) := by decide +kernel
theorem dX12_fetched_39 : decode cX12_fetched 39 = .ok (.if_icmp .ge 25, 3) := by decide +kernel
theorem dX12_fetched_42 : decode cX12_fetched 42 = .ok (.aload_n 0, 1) := by decide +kernel
theorem dX12_fetched_43 : decode cX12_fetched 43 = .ok (.getfield 121, 3) := by decide +kernel
theorem dX12_fetched_46 : decode cX12_fetched 46 = .ok (.iload_n 2, 1) := by decide +kernel
theorem dX12_fetched_47 : decode cX12_fetched 47 = .ok (.iaload, 1) := by decide +kernel
theorem dX12_fetched_48 : decode cX12_fetched 48 = .ok (.iload_n 1, 1) := by decide +kernel
theorem dX12_fetched_49 : decode cX12_fetched 49 = .ok (.ishr, 1) := by decide +kernel
theorem dX12_fetched_50 : decode cX12_fetched 50 = .ok (.iconst 1, 1) := by decide +kernel
theorem dX12_fetched_51 : decode cX12_fetched 51 = .ok (.iand, 1) := by decide +kernel
theorem dX12_fetched_52 : decode cX12_fetched 52 = .ok (.iconst 1, 1) := by decide +kernel
theorem dX12_fetched_53 : decode cX12_fetched 53 = .ok (.if_icmp .ne 5, 3) := by decide +kernel
theorem dX12_fetched_56 : decode cX12_fetched 56 = .ok (.iload_n 2, 1) := by decide +kernel
theorem dX12_fetched_57 : decode cX12_fetched 57 = .ok (.ireturn, 1) := by decide +kernel
theorem dX12_fetched_58 : decode cX12_fetched 58 = .ok (.iinc 2 1, 3) := by decide +kernel
theorem dX12_fetched_61 : decode cX12_fetched 61 = .ok (.goto (-29), 3) := by decide +kernel
theorem dX12_fetched_64 : decode cX12_fetched 64 = .ok (.iconst (-1), 1) := by decide +kernel
theorem dX12_fetched_65 : decode cX12_fetched 65 = .ok (.ireturn, 1) := by decide +kernel
theorem dX12_without_0 : decode cX12_without 0 = .ok (.aload_n 0, 1) := by decide +kernel
theorem dX12_without_1 : decode cX12_without 1 = .ok (.invokevirtual 497, 3) := by decide +kernel
theorem dX12_without_4 : decode cX12_without 4 = .ok (.aload_n 0, 1) := by decide +kernel
theorem dX12_without_5 : decode cX12_without 5 = .ok (.iconst 1, 1) := by decide +kernel
theorem dX12_without_6 : decode cX12_without 6 = .ok (.iload_n 1, 1) := by decide +kernel
theorem dX12_without_7 : decode cX12_without 7 = .ok (.ishl, 1) := by decide +kernel
theorem dX12_without_8 : decode cX12_without 8 = .ok (.putfield 461, 3) := by decide +kernel
theorem dX12_without_11 : decode cX12_without 11 = .ok (.aload_n 0, 1) := by decide +kernel
theorem dX12_without_12 : decode cX12_without 12 = .ok (.invokevirtual 502, 3) := by decide +kernel
theorem dX12_without_15 : decode cX12_without 15 = .ok (.ireturn, 1) := by decide +kernel
theorem dX12_asBest_0 : decode cX12_asBest 0 = .ok (.aload_n 0, 1) := by decide +kernel
theorem dX12_asBest_1 : decode cX12_asBest 1 = .ok (.invokevirtual 497, 3) := by decide +kernel
theorem dX12_asBest_4 : decode cX12_asBest 4 = .ok (.aload_n 0, 1) := by decide +kernel
theorem dX12_asBest_5 : decode cX12_asBest 5 = .ok (.invokevirtual 502, 3) := by decide +kernel
theorem dX12_asBest_8 : decode cX12_asBest 8 = .ok (.ireturn, 1) := by decide +kernel
theorem dX12_hangsOn_0 : decode cX12_hangsOn 0 = .ok (.aload_n 0, 1) := by decide +kernel
theorem dX12_hangsOn_1 : decode cX12_hangsOn 1 = .ok (.iload_n 1, 1) := by decide +kernel
theorem dX12_hangsOn_2 : decode cX12_hangsOn 2 = .ok (.invokevirtual 515, 3) := by decide +kernel
theorem dX12_hangsOn_5 : decode cX12_hangsOn 5 = .ok (.istore_n 3, 1) := by decide +kernel
theorem dX12_hangsOn_6 : decode cX12_hangsOn 6 = .ok (.iload_n 2, 1) := by decide +kernel
theorem dX12_hangsOn_7 : decode cX12_hangsOn 7 = .ok (.iload_n 3, 1) := by decide +kernel
theorem dX12_hangsOn_8 : decode cX12_hangsOn 8 = .ok (.iconst (-1), 1) := by decide +kernel
theorem dX12_hangsOn_9 : decode cX12_hangsOn 9 = .ok (.if_icmp .ne 7, 3) := by decide +kernel
theorem dX12_hangsOn_12 : decode cX12_hangsOn 12 = .ok (.iconst 0, 1) := by decide +kernel
theorem dX12_hangsOn_13 : decode cX12_hangsOn 13 = .ok (.goto 4, 3) := by decide +kernel
theorem dX12_hangsOn_16 : decode cX12_hangsOn 16 = .ok (.iload_n 3, 1) := by decide +kernel
theorem dX12_hangsOn_17 : decode cX12_hangsOn 17 = .ok (.isub, 1) := by decide +kernel
theorem dX12_hangsOn_18 : decode cX12_hangsOn 18 = .ok (.ireturn, 1) := by decide +kernel
theorem dX12_hangs_0 : decode cX12_hangs 0 = .ok (.aload_n 0, 1) := by decide +kernel
theorem dX12_hangs_1 : decode cX12_hangs 1 = .ok (.iload_n 1, 1) := by decide +kernel
theorem dX12_hangs_2 : decode cX12_hangs 2 = .ok (.invokevirtual 375, 3) := by decide +kernel
theorem dX12_hangs_5 : decode cX12_hangs 5 = .ok (.ifCond .ne 5, 3) := by decide +kernel
theorem dX12_hangs_8 : decode cX12_hangs 8 = .ok (.iconst (-1), 1) := by decide +kernel
theorem dX12_hangs_9 : decode cX12_hangs 9 = .ok (.ireturn, 1) := by decide +kernel
theorem dX12_hangs_10 : decode cX12_hangs 10 = .ok (.aload_n 0, 1) := by decide +kernel
theorem dX12_hangs_11 : decode cX12_hangs 11 = .ok (.invokevirtual 518, 3) := by decide +kernel
theorem dX12_hangs_14 : decode cX12_hangs 14 = .ok (.istore_n 2, 1) := by decide +kernel
theorem dX12_hangs_15 : decode cX12_hangs 15 = .ok (.iload_n 2, 1) := by decide +kernel
theorem dX12_hangs_16 : decode cX12_hangs 16 = .ok (.iconst (-1), 1) := by decide +kernel
theorem dX12_hangs_17 : decode cX12_hangs 17 = .ok (.if_icmp .ne 8, 3) := by decide +kernel
theorem dX12_hangs_20 : decode cX12_hangs 20 = .ok (.bipush (-2), 2) := by decide +kernel
theorem dX12_hangs_22 : decode cX12_hangs 22 = .ok (.goto 9, 3) := by decide +kernel
theorem dX12_hangs_25 : decode cX12_hangs 25 = .ok (.aload_n 0, 1) := by decide +kernel
theorem dX12_hangs_26 : decode cX12_hangs 26 = .ok (.iload_n 1, 1) := by decide +kernel
theorem dX12_hangs_27 : decode cX12_hangs 27 = .ok (.iload_n 2, 1) := by decide +kernel
theorem dX12_hangs_28 : decode cX12_hangs 28 = .ok (.invokevirtual 521, 3) := by decide +kernel
theorem dX12_hangs_31 : decode cX12_hangs 31 = .ok (.ireturn, 1) := by decide +kernel
theorem dX12_key_0 : decode cX12_key 0 = .ok (.aload_n 0, 1) := by decide +kernel
theorem dX12_key_1 : decode cX12_key 1 = .ok (.invokevirtual 518, 3) := by decide +kernel
theorem dX12_key_4 : decode cX12_key 4 = .ok (.istore_n 1, 1) := by decide +kernel
theorem dX12_key_5 : decode cX12_key 5 = .ok (.bipush (-2), 2) := by decide +kernel
theorem dX12_key_7 : decode cX12_key 7 = .ok (.istore_n 2, 1) := by decide +kernel
theorem dX12_key_8 : decode cX12_key 8 = .ok (.iconst 0, 1) := by decide +kernel
theorem dX12_key_9 : decode cX12_key 9 = .ok (.istore_n 3, 1) := by decide +kernel
theorem dX12_key_10 : decode cX12_key 10 = .ok (.iconst 0, 1) := by decide +kernel
theorem dX12_key_11 : decode cX12_key 11 = .ok (.istore 4, 2) := by decide +kernel
theorem dX12_key_13 : decode cX12_key 13 = .ok (.iload 4, 2) := by decide +kernel
theorem dX12_key_15 : decode cX12_key 15 = .ok (.bipush 8, 2) := by decide +kernel
theorem dX12_key_17 : decode cX12_key 17 = .ok (.if_icmp .ge 74, 3) := by decide +kernel
theorem dX12_key_20 : decode cX12_key 20 = .ok (.iload_n 1, 1) := by decide +kernel
theorem dX12_key_21 : decode cX12_key 21 = .ok (.iconst (-1), 1) := by decide +kernel
theorem dX12_key_22 : decode cX12_key 22 = .ok (.if_icmp .eq 69, 3) := by decide +kernel
theorem dX12_key_25 : decode cX12_key 25 = .ok (.aload_n 0, 1) := by decide +kernel
theorem dX12_key_26 : decode cX12_key 26 = .ok (.getfield 44, 3) := by decide +kernel
theorem dX12_key_29 : decode cX12_key 29 = .ok (.iload 4, 2) := by decide +kernel
theorem dX12_key_31 : decode cX12_key 31 = .ok (.iaload, 1) := by decide +kernel
theorem dX12_key_32 : decode cX12_key 32 = .ok (.iconst 1, 1) := by decide +kernel
theorem dX12_key_33 : decode cX12_key 33 = .ok (.if_icmp .ne 52, 3) := by decide +kernel
theorem dX12_key_36 : decode cX12_key 36 = .ok (.aload_n 0, 1) := by decide +kernel
theorem dX12_key_37 : decode cX12_key 37 = .ok (.iload 4, 2) := by decide +kernel
theorem dX12_key_39 : decode cX12_key 39 = .ok (.iload_n 1, 1) := by decide +kernel
theorem dX12_key_40 : decode cX12_key 40 = .ok (.invokevirtual 521, 3) := by decide +kernel
theorem dX12_key_43 : decode cX12_key 43 = .ok (.istore 5, 2) := by decide +kernel
theorem dX12_key_45 : decode cX12_key 45 = .ok (.iload_n 2, 1) := by decide +kernel
theorem dX12_key_46 : decode cX12_key 46 = .ok (.bipush (-2), 2) := by decide +kernel
theorem dX12_key_48 : decode cX12_key 48 = .ok (.if_icmp .eq 31, 3) := by decide +kernel
theorem dX12_key_51 : decode cX12_key 51 = .ok (.iload 5, 2) := by decide +kernel
theorem dX12_key_53 : decode cX12_key 53 = .ok (.iload_n 3, 1) := by decide +kernel
theorem dX12_key_54 : decode cX12_key 54 = .ok (.if_icmp .gt 25, 3) := by decide +kernel
theorem dX12_key_57 : decode cX12_key 57 = .ok (.iload 5, 2) := by decide +kernel
theorem dX12_key_59 : decode cX12_key 59 = .ok (.iload_n 3, 1) := by decide +kernel
theorem dX12_key_60 : decode cX12_key 60 = .ok (.if_icmp .ne 25, 3) := by decide +kernel
theorem dX12_key_63 : decode cX12_key 63 = .ok (.aload_n 0, 1) := by decide +kernel
theorem dX12_key_64 : decode cX12_key 64 = .ok (.getfield 47, 3) := by decide +kernel
theorem dX12_key_67 : decode cX12_key 67 = .ok (.iload 4, 2) := by decide +kernel
theorem dX12_key_69 : decode cX12_key 69 = .ok (.iaload, 1) := by decide +kernel
theorem dX12_key_70 : decode cX12_key 70 = .ok (.aload_n 0, 1) := by decide +kernel
theorem dX12_key_71 : decode cX12_key 71 = .ok (.getfield 47, 3) := by decide +kernel
theorem dX12_key_74 : decode cX12_key 74 = .ok (.iload_n 2, 1) := by decide +kernel
theorem dX12_key_75 : decode cX12_key 75 = .ok (.iaload, 1) := by decide +kernel
theorem dX12_key_76 : decode cX12_key 76 = .ok (.if_icmp .ge 9, 3) := by decide +kernel
theorem dX12_key_79 : decode cX12_key 79 = .ok (.iload 4, 2) := by decide +kernel
theorem dX12_key_81 : decode cX12_key 81 = .ok (.istore_n 2, 1) := by decide +kernel
theorem dX12_key_82 : decode cX12_key 82 = .ok (.iload 5, 2) := by decide +kernel
theorem dX12_key_84 : decode cX12_key 84 = .ok (.istore_n 3, 1) := by decide +kernel
theorem dX12_key_85 : decode cX12_key 85 = .ok (.iinc 4 1, 3) := by decide +kernel
theorem dX12_key_88 : decode cX12_key 88 = .ok (.goto (-75), 3) := by decide +kernel
theorem dX12_key_91 : decode cX12_key 91 = .ok (.iload_n 2, 1) := by decide +kernel
theorem dX12_key_92 : decode cX12_key 92 = .ok (.ireturn, 1) := by decide +kernel
theorem dX12_wise_0 : decode cX12_wise 0 = .ok (.aload_n 0, 1) := by decide +kernel
theorem dX12_wise_1 : decode cX12_wise 1 = .ok (.iload_n 1, 1) := by decide +kernel
theorem dX12_wise_2 : decode cX12_wise 2 = .ok (.invokevirtual 375, 3) := by decide +kernel
theorem dX12_wise_5 : decode cX12_wise 5 = .ok (.ifCond .ne 7, 3) := by decide +kernel
theorem dX12_wise_8 : decode cX12_wise 8 = .ok (.ldc_w 524, 3) := by decide +kernel
theorem dX12_wise_11 : decode cX12_wise 11 = .ok (.ireturn, 1) := by decide +kernel
theorem dX12_wise_12 : decode cX12_wise 12 = .ok (.aload_n 0, 1) := by decide +kernel
theorem dX12_wise_13 : decode cX12_wise 13 = .ok (.invokevirtual 518, 3) := by decide +kernel
theorem dX12_wise_16 : decode cX12_wise 16 = .ok (.istore_n 2, 1) := by decide +kernel
theorem dX12_wise_17 : decode cX12_wise 17 = .ok (.aload_n 0, 1) := by decide +kernel
theorem dX12_wise_18 : decode cX12_wise 18 = .ok (.invokevirtual 497, 3) := by decide +kernel
theorem dX12_wise_21 : decode cX12_wise 21 = .ok (.aload_n 0, 1) := by decide +kernel
theorem dX12_wise_22 : decode cX12_wise 22 = .ok (.iconst 1, 1) := by decide +kernel
theorem dX12_wise_23 : decode cX12_wise 23 = .ok (.iload_n 1, 1) := by decide +kernel
theorem dX12_wise_24 : decode cX12_wise 24 = .ok (.ishl, 1) := by decide +kernel
theorem dX12_wise_25 : decode cX12_wise 25 = .ok (.putfield 464, 3) := by decide +kernel
theorem dX12_wise_28 : decode cX12_wise 28 = .ok (.aload_n 0, 1) := by decide +kernel
theorem dX12_wise_29 : decode cX12_wise 29 = .ok (.aload_n 0, 1) := by decide +kernel
theorem dX12_wise_30 : decode cX12_wise 30 = .ok (.getfield 74, 3) := by decide +kernel
theorem dX12_wise_33 : decode cX12_wise 33 = .ok (.iconst 0, 1) := by decide +kernel
theorem dX12_wise_34 : decode cX12_wise 34 = .ok (.iaload, 1) := by decide +kernel
theorem dX12_wise_35 : decode cX12_wise 35 = .ok (.aload_n 0, 1) := by decide +kernel
theorem dX12_wise_36 : decode cX12_wise 36 = .ok (.getfield 47, 3) := by decide +kernel
theorem dX12_wise_39 : decode cX12_wise 39 = .ok (.iload_n 1, 1) := by decide +kernel
theorem dX12_wise_40 : decode cX12_wise 40 = .ok (.iaload, 1) := by decide +kernel
theorem dX12_wise_41 : decode cX12_wise 41 = .ok (.isub, 1) := by decide +kernel
theorem dX12_wise_42 : decode cX12_wise 42 = .ok (.putfield 476, 3) := by decide +kernel
theorem dX12_wise_45 : decode cX12_wise 45 = .ok (.aload_n 0, 1) := by decide +kernel
theorem dX12_wise_46 : decode cX12_wise 46 = .ok (.invokevirtual 502, 3) := by decide +kernel
theorem dX12_wise_49 : decode cX12_wise 49 = .ok (.istore_n 3, 1) := by decide +kernel
theorem dX12_wise_50 : decode cX12_wise 50 = .ok (.iload_n 2, 1) := by decide +kernel
theorem dX12_wise_51 : decode cX12_wise 51 = .ok (.iconst (-1), 1) := by decide +kernel
theorem dX12_wise_52 : decode cX12_wise 52 = .ok (.if_icmp .eq 8, 3) := by decide +kernel
theorem dX12_wise_55 : decode cX12_wise 55 = .ok (.iload_n 3, 1) := by decide +kernel
theorem dX12_wise_56 : decode cX12_wise 56 = .ok (.iconst (-1), 1) := by decide +kernel
theorem dX12_wise_57 : decode cX12_wise 57 = .ok (.if_icmp .ne 9, 3) := by decide +kernel
theorem dX12_wise_60 : decode cX12_wise 60 = .ok (.ldc_w 525, 3) := by decide +kernel
theorem dX12_wise_63 : decode cX12_wise 63 = .ok (.goto 6, 3) := by decide +kernel
theorem dX12_wise_66 : decode cX12_wise 66 = .ok (.iload_n 2, 1) := by decide +kernel
theorem dX12_wise_67 : decode cX12_wise 67 = .ok (.iload_n 3, 1) := by decide +kernel
theorem dX12_wise_68 : decode cX12_wise 68 = .ok (.isub, 1) := by decide +kernel
theorem dX12_wise_69 : decode cX12_wise 69 = .ok (.ireturn, 1) := by decide +kernel
theorem dX12_borrowedIn_0 : decode cX12_borrowedIn 0 = .ok (.aload_n 0, 1) := by decide +kernel
theorem dX12_borrowedIn_1 : decode cX12_borrowedIn 1 = .ok (.invokevirtual 497, 3) := by decide +kernel
theorem dX12_borrowedIn_4 : decode cX12_borrowedIn 4 = .ok (.aload_n 0, 1) := by decide +kernel
theorem dX12_borrowedIn_5 : decode cX12_borrowedIn 5 = .ok (.getfield 71, 3) := by decide +kernel
theorem dX12_borrowedIn_8 : decode cX12_borrowedIn 8 = .ok (.iconst 0, 1) := by decide +kernel
theorem dX12_borrowedIn_9 : decode cX12_borrowedIn 9 = .ok (.iaload, 1) := by decide +kernel
theorem dX12_borrowedIn_10 : decode cX12_borrowedIn 10 = .ok (.iconst (-1), 1) := by decide +kernel
theorem dX12_borrowedIn_11 : decode cX12_borrowedIn 11 = .ok (.if_icmp .eq 28, 3) := by decide +kernel
theorem dX12_borrowedIn_14 : decode cX12_borrowedIn 14 = .ok (.aload_n 0, 1) := by decide +kernel
theorem dX12_borrowedIn_15 : decode cX12_borrowedIn 15 = .ok (.getfield 71, 3) := by decide +kernel
theorem dX12_borrowedIn_18 : decode cX12_borrowedIn 18 = .ok (.iconst 0, 1) := by decide +kernel
theorem dX12_borrowedIn_19 : decode cX12_borrowedIn 19 = .ok (.iaload, 1) := by decide +kernel
theorem dX12_borrowedIn_20 : decode cX12_borrowedIn 20 = .ok (.aload_n 0, 1) := by decide +kernel
theorem dX12_borrowedIn_21 : decode cX12_borrowedIn 21 = .ok (.getfield 77, 3) := by decide +kernel
theorem dX12_borrowedIn_24 : decode cX12_borrowedIn 24 = .ok (.iconst 0, 1) := by decide +kernel
theorem dX12_borrowedIn_25 : decode cX12_borrowedIn 25 = .ok (.iaload, 1) := by decide +kernel
theorem dX12_borrowedIn_26 : decode cX12_borrowedIn 26 = .ok (.if_icmp .ge 13, 3) := by decide +kernel
theorem dX12_borrowedIn_29 : decode cX12_borrowedIn 29 = .ok (.iload_n 1, 1) := by decide +kernel
theorem dX12_borrowedIn_30 : decode cX12_borrowedIn 30 = .ok (.aload_n 0, 1) := by decide +kernel
theorem dX12_borrowedIn_31 : decode cX12_borrowedIn 31 = .ok (.getfield 71, 3) := by decide +kernel
theorem dX12_borrowedIn_34 : decode cX12_borrowedIn 34 = .ok (.iconst 0, 1) := by decide +kernel
theorem dX12_borrowedIn_35 : decode cX12_borrowedIn 35 = .ok (.iaload, 1) := by decide +kernel
theorem dX12_borrowedIn_36 : decode cX12_borrowedIn 36 = .ok (.if_icmp .lt 6, 3) := by decide +kernel
theorem dX12_borrowedIn_39 : decode cX12_borrowedIn 39 = .ok (.bipush (-2), 2) := by decide +kernel
theorem dX12_borrowedIn_41 : decode cX12_borrowedIn 41 = .ok (.ireturn, 1) := by decide +kernel
theorem dX12_borrowedIn_42 : decode cX12_borrowedIn 42 = .ok (.aload_n 0, 1) := by decide +kernel
theorem dX12_borrowedIn_43 : decode cX12_borrowedIn 43 = .ok (.iload_n 1, 1) := by decide +kernel
theorem dX12_borrowedIn_44 : decode cX12_borrowedIn 44 = .ok (.putfield 473, 3) := by decide +kernel
theorem dX12_borrowedIn_47 : decode cX12_borrowedIn 47 = .ok (.aload_n 0, 1) := by decide +kernel
theorem dX12_borrowedIn_48 : decode cX12_borrowedIn 48 = .ok (.invokevirtual 502, 3) := by decide +kernel
theorem dX12_borrowedIn_51 : decode cX12_borrowedIn 51 = .ok (.istore_n 2, 1) := by decide +kernel
theorem dX12_borrowedIn_52 : decode cX12_borrowedIn 52 = .ok (.iload_n 2, 1) := by decide +kernel
theorem dX12_borrowedIn_53 : decode cX12_borrowedIn 53 = .ok (.iconst (-1), 1) := by decide +kernel
theorem dX12_borrowedIn_54 : decode cX12_borrowedIn 54 = .ok (.if_icmp .ne 8, 3) := by decide +kernel
theorem dX12_borrowedIn_57 : decode cX12_borrowedIn 57 = .ok (.bipush (-2), 2) := by decide +kernel
theorem dX12_borrowedIn_59 : decode cX12_borrowedIn 59 = .ok (.goto 4, 3) := by decide +kernel
theorem dX12_borrowedIn_62 : decode cX12_borrowedIn 62 = .ok (.iload_n 2, 1) := by decide +kernel
theorem dX12_borrowedIn_63 : decode cX12_borrowedIn 63 = .ok (.ireturn, 1) := by decide +kernel
theorem dX12_borrowed_0 : decode cX12_borrowed 0 = .ok (.aload_n 0, 1) := by decide +kernel
theorem dX12_borrowed_1 : decode cX12_borrowed 1 = .ok (.iload_n 1, 1) := by decide +kernel
theorem dX12_borrowed_2 : decode cX12_borrowed 2 = .ok (.invokevirtual 526, 3) := by decide +kernel
theorem dX12_borrowed_5 : decode cX12_borrowed 5 = .ok (.ifCond .eq 11, 3) := by decide +kernel
theorem dX12_borrowed_8 : decode cX12_borrowed 8 = .ok (.aload_n 0, 1) := by decide +kernel
theorem dX12_borrowed_9 : decode cX12_borrowed 9 = .ok (.iload_n 1, 1) := by decide +kernel
theorem dX12_borrowed_10 : decode cX12_borrowed 10 = .ok (.invokevirtual 529, 3) := by decide +kernel
theorem dX12_borrowed_13 : decode cX12_borrowed 13 = .ok (.goto 4, 3) := by decide +kernel
theorem dX12_borrowed_16 : decode cX12_borrowed 16 = .ok (.iconst (-1), 1) := by decide +kernel
theorem dX12_borrowed_17 : decode cX12_borrowed 17 = .ok (.ireturn, 1) := by decide +kernel
theorem dX12_when_0 : decode cX12_when 0 = .ok (.aload_n 0, 1) := by decide +kernel
theorem dX12_when_1 : decode cX12_when 1 = .ok (.invokevirtual 518, 3) := by decide +kernel
theorem dX12_when_4 : decode cX12_when 4 = .ok (.istore_n 1, 1) := by decide +kernel
theorem dX12_when_5 : decode cX12_when 5 = .ok (.bipush (-2), 2) := by decide +kernel
theorem dX12_when_7 : decode cX12_when 7 = .ok (.istore_n 2, 1) := by decide +kernel
theorem dX12_when_8 : decode cX12_when 8 = .ok (.iconst 0, 1) := by decide +kernel
theorem dX12_when_9 : decode cX12_when 9 = .ok (.istore_n 3, 1) := by decide +kernel
theorem dX12_when_10 : decode cX12_when 10 = .ok (.iload_n 3, 1) := by decide +kernel
theorem dX12_when_11 : decode cX12_when 11 = .ok (.aload_n 0, 1) := by decide +kernel
theorem dX12_when_12 : decode cX12_when 12 = .ok (.getfield 77, 3) := by decide +kernel
theorem dX12_when_15 : decode cX12_when 15 = .ok (.iconst 0, 1) := by decide +kernel
theorem dX12_when_16 : decode cX12_when 16 = .ok (.iaload, 1) := by decide +kernel
theorem dX12_when_17 : decode cX12_when 17 = .ok (.if_icmp .ge 34, 3) := by decide +kernel
theorem dX12_when_20 : decode cX12_when 20 = .ok (.aload_n 0, 1) := by decide +kernel
theorem dX12_when_21 : decode cX12_when 21 = .ok (.iload_n 3, 1) := by decide +kernel
theorem dX12_when_22 : decode cX12_when 22 = .ok (.invokevirtual 529, 3) := by decide +kernel
theorem dX12_when_25 : decode cX12_when 25 = .ok (.istore 4, 2) := by decide +kernel
theorem dX12_when_27 : decode cX12_when 27 = .ok (.iload 4, 2) := by decide +kernel
theorem dX12_when_29 : decode cX12_when 29 = .ok (.bipush (-2), 2) := by decide +kernel
theorem dX12_when_31 : decode cX12_when 31 = .ok (.if_icmp .eq 14, 3) := by decide +kernel
theorem dX12_when_34 : decode cX12_when 34 = .ok (.iload 4, 2) := by decide +kernel
theorem dX12_when_36 : decode cX12_when 36 = .ok (.iload_n 1, 1) := by decide +kernel
theorem dX12_when_37 : decode cX12_when 37 = .ok (.if_icmp .le 8, 3) := by decide +kernel
theorem dX12_when_40 : decode cX12_when 40 = .ok (.iload_n 3, 1) := by decide +kernel
theorem dX12_when_41 : decode cX12_when 41 = .ok (.istore_n 2, 1) := by decide +kernel
theorem dX12_when_42 : decode cX12_when 42 = .ok (.iload 4, 2) := by decide +kernel
theorem dX12_when_44 : decode cX12_when 44 = .ok (.istore_n 1, 1) := by decide +kernel
theorem dX12_when_45 : decode cX12_when 45 = .ok (.iinc 3 1, 3) := by decide +kernel
theorem dX12_when_48 : decode cX12_when 48 = .ok (.goto (-38), 3) := by decide +kernel
theorem dX12_when_51 : decode cX12_when 51 = .ok (.iload_n 2, 1) := by decide +kernel
theorem dX12_when_52 : decode cX12_when 52 = .ok (.ireturn, 1) := by decide +kernel
theorem dX12_soldBy_0 : decode cX12_soldBy 0 = .ok (.aload_n 0, 1) := by decide +kernel
theorem dX12_soldBy_1 : decode cX12_soldBy 1 = .ok (.invokevirtual 497, 3) := by decide +kernel
theorem dX12_soldBy_4 : decode cX12_soldBy 4 = .ok (.aload_n 0, 1) := by decide +kernel
theorem dX12_soldBy_5 : decode cX12_soldBy 5 = .ok (.getfield 53, 3) := by decide +kernel
theorem dX12_soldBy_8 : decode cX12_soldBy 8 = .ok (.iload_n 1, 1) := by decide +kernel
theorem dX12_soldBy_9 : decode cX12_soldBy 9 = .ok (.iaload, 1) := by decide +kernel
theorem dX12_soldBy_10 : decode cX12_soldBy 10 = .ok (.iconst (-1), 1) := by decide +kernel
theorem dX12_soldBy_11 : decode cX12_soldBy 11 = .ok (.if_icmp .eq 16, 3) := by decide +kernel
theorem dX12_soldBy_14 : decode cX12_soldBy 14 = .ok (.aload_n 0, 1) := by decide +kernel
theorem dX12_soldBy_15 : decode cX12_soldBy 15 = .ok (.getfield 53, 3) := by decide +kernel
theorem dX12_soldBy_18 : decode cX12_soldBy 18 = .ok (.iload_n 1, 1) := by decide +kernel
theorem dX12_soldBy_19 : decode cX12_soldBy 19 = .ok (.iaload, 1) := by decide +kernel
theorem dX12_soldBy_20 : decode cX12_soldBy 20 = .ok (.iload_n 2, 1) := by decide +kernel
theorem dX12_soldBy_21 : decode cX12_soldBy 21 = .ok (.if_icmp .gt 6, 3) := by decide +kernel
theorem dX12_soldBy_24 : decode cX12_soldBy 24 = .ok (.bipush (-2), 2) := by decide +kernel
theorem dX12_soldBy_26 : decode cX12_soldBy 26 = .ok (.ireturn, 1) := by decide +kernel
theorem dX12_soldBy_27 : decode cX12_soldBy 27 = .ok (.aload_n 0, 1) := by decide +kernel
theorem dX12_soldBy_28 : decode cX12_soldBy 28 = .ok (.iload_n 1, 1) := by decide +kernel
theorem dX12_soldBy_29 : decode cX12_soldBy 29 = .ok (.putfield 467, 3) := by decide +kernel
theorem dX12_soldBy_32 : decode cX12_soldBy 32 = .ok (.aload_n 0, 1) := by decide +kernel
theorem dX12_soldBy_33 : decode cX12_soldBy 33 = .ok (.iload_n 2, 1) := by decide +kernel
theorem dX12_soldBy_34 : decode cX12_soldBy 34 = .ok (.putfield 470, 3) := by decide +kernel
theorem dX12_soldBy_37 : decode cX12_soldBy 37 = .ok (.aload_n 0, 1) := by decide +kernel
theorem dX12_soldBy_38 : decode cX12_soldBy 38 = .ok (.invokevirtual 502, 3) := by decide +kernel
theorem dX12_soldBy_41 : decode cX12_soldBy 41 = .ok (.istore_n 3, 1) := by decide +kernel
theorem dX12_soldBy_42 : decode cX12_soldBy 42 = .ok (.iload_n 3, 1) := by decide +kernel
theorem dX12_soldBy_43 : decode cX12_soldBy 43 = .ok (.iconst (-1), 1) := by decide +kernel
theorem dX12_soldBy_44 : decode cX12_soldBy 44 = .ok (.if_icmp .ne 8, 3) := by decide +kernel
theorem dX12_soldBy_47 : decode cX12_soldBy 47 = .ok (.bipush (-2), 2) := by decide +kernel
theorem dX12_soldBy_49 : decode cX12_soldBy 49 = .ok (.goto 4, 3) := by decide +kernel
theorem dX12_soldBy_52 : decode cX12_soldBy 52 = .ok (.iload_n 3, 1) := by decide +kernel
theorem dX12_soldBy_53 : decode cX12_soldBy 53 = .ok (.ireturn, 1) := by decide +kernel
theorem dX12_sold_0 : decode cX12_sold 0 = .ok (.aload_n 0, 1) := by decide +kernel
theorem dX12_sold_1 : decode cX12_sold 1 = .ok (.iload_n 1, 1) := by decide +kernel
theorem dX12_sold_2 : decode cX12_sold 2 = .ok (.invokevirtual 375, 3) := by decide +kernel
theorem dX12_sold_5 : decode cX12_sold 5 = .ok (.ifCond .eq 20, 3) := by decide +kernel
theorem dX12_sold_8 : decode cX12_sold 8 = .ok (.aload_n 0, 1) := by decide +kernel
theorem dX12_sold_9 : decode cX12_sold 9 = .ok (.iload_n 2, 1) := by decide +kernel
theorem dX12_sold_10 : decode cX12_sold 10 = .ok (.invokevirtual 526, 3) := by decide +kernel
theorem dX12_sold_13 : decode cX12_sold 13 = .ok (.ifCond .eq 12, 3) := by decide +kernel
theorem dX12_sold_16 : decode cX12_sold 16 = .ok (.aload_n 0, 1) := by decide +kernel
theorem dX12_sold_17 : decode cX12_sold 17 = .ok (.iload_n 1, 1) := by decide +kernel
theorem dX12_sold_18 : decode cX12_sold 18 = .ok (.iload_n 2, 1) := by decide +kernel
theorem dX12_sold_19 : decode cX12_sold 19 = .ok (.invokevirtual 532, 3) := by decide +kernel
theorem dX12_sold_22 : decode cX12_sold 22 = .ok (.goto 4, 3) := by decide +kernel
theorem dX12_sold_25 : decode cX12_sold 25 = .ok (.iconst (-1), 1) := by decide +kernel
theorem dX12_sold_26 : decode cX12_sold 26 = .ok (.ireturn, 1) := by decide +kernel
theorem dX12_selling_0 : decode cX12_selling 0 = .ok (.aload_n 0, 1) := by decide +kernel
theorem dX12_selling_1 : decode cX12_selling 1 = .ok (.iload_n 1, 1) := by decide +kernel
theorem dX12_selling_2 : decode cX12_selling 2 = .ok (.invokevirtual 375, 3) := by decide +kernel
theorem dX12_selling_5 : decode cX12_selling 5 = .ok (.ifCond .ne 5, 3) := by decide +kernel
theorem dX12_selling_8 : decode cX12_selling 8 = .ok (.iconst (-1), 1) := by decide +kernel
theorem dX12_selling_9 : decode cX12_selling 9 = .ok (.ireturn, 1) := by decide +kernel
theorem dX12_selling_10 : decode cX12_selling 10 = .ok (.aload_n 0, 1) := by decide +kernel
theorem dX12_selling_11 : decode cX12_selling 11 = .ok (.invokevirtual 518, 3) := by decide +kernel
theorem dX12_selling_14 : decode cX12_selling 14 = .ok (.istore_n 2, 1) := by decide +kernel
theorem dX12_selling_15 : decode cX12_selling 15 = .ok (.bipush (-2), 2) := by decide +kernel
theorem dX12_selling_17 : decode cX12_selling 17 = .ok (.istore_n 3, 1) := by decide +kernel
theorem dX12_selling_18 : decode cX12_selling 18 = .ok (.iconst 0, 1) := by decide +kernel
theorem dX12_selling_19 : decode cX12_selling 19 = .ok (.istore 4, 2) := by decide +kernel
theorem dX12_selling_21 : decode cX12_selling 21 = .ok (.iload 4, 2) := by decide +kernel
theorem dX12_selling_23 : decode cX12_selling 23 = .ok (.aload_n 0, 1) := by decide +kernel
theorem dX12_selling_24 : decode cX12_selling 24 = .ok (.getfield 77, 3) := by decide +kernel
theorem dX12_selling_27 : decode cX12_selling 27 = .ok (.iconst 0, 1) := by decide +kernel
theorem dX12_selling_28 : decode cX12_selling 28 = .ok (.iaload, 1) := by decide +kernel
theorem dX12_selling_29 : decode cX12_selling 29 = .ok (.if_icmp .ge 37, 3) := by decide +kernel
theorem dX12_selling_32 : decode cX12_selling 32 = .ok (.aload_n 0, 1) := by decide +kernel
theorem dX12_selling_33 : decode cX12_selling 33 = .ok (.iload_n 1, 1) := by decide +kernel
theorem dX12_selling_34 : decode cX12_selling 34 = .ok (.iload 4, 2) := by decide +kernel
theorem dX12_selling_36 : decode cX12_selling 36 = .ok (.invokevirtual 532, 3) := by decide +kernel
theorem dX12_selling_39 : decode cX12_selling 39 = .ok (.istore 5, 2) := by decide +kernel
theorem dX12_selling_41 : decode cX12_selling 41 = .ok (.iload 5, 2) := by decide +kernel
theorem dX12_selling_43 : decode cX12_selling 43 = .ok (.bipush (-2), 2) := by decide +kernel
theorem dX12_selling_45 : decode cX12_selling 45 = .ok (.if_icmp .eq 15, 3) := by decide +kernel
theorem dX12_selling_48 : decode cX12_selling 48 = .ok (.iload 5, 2) := by decide +kernel
theorem dX12_selling_50 : decode cX12_selling 50 = .ok (.iload_n 2, 1) := by decide +kernel
theorem dX12_selling_51 : decode cX12_selling 51 = .ok (.if_icmp .le 9, 3) := by decide +kernel
theorem dX12_selling_54 : decode cX12_selling 54 = .ok (.iload 4, 2) := by decide +kernel
theorem dX12_selling_56 : decode cX12_selling 56 = .ok (.istore_n 3, 1) := by decide +kernel
theorem dX12_selling_57 : decode cX12_selling 57 = .ok (.iload 5, 2) := by decide +kernel
theorem dX12_selling_59 : decode cX12_selling 59 = .ok (.istore_n 2, 1) := by decide +kernel
theorem dX12_selling_60 : decode cX12_selling 60 = .ok (.iinc 4 1, 3) := by decide +kernel
theorem dX12_selling_63 : decode cX12_selling 63 = .ok (.goto (-42), 3) := by decide +kernel
theorem dX12_selling_66 : decode cX12_selling 66 = .ok (.iload_n 3, 1) := by decide +kernel
theorem dX12_selling_67 : decode cX12_selling 67 = .ok (.ireturn, 1) := by decide +kernel
theorem dX12_isRule_0 : decode cX12_isRule 0 = .ok (.iload_n 1, 1) := by decide +kernel
theorem dX12_isRule_1 : decode cX12_isRule 1 = .ok (.i2l, 1) := by decide +kernel
theorem dX12_isRule_2 : decode cX12_isRule 2 = .ok (.lconst 0, 1) := by decide +kernel
theorem dX12_isRule_3 : decode cX12_isRule 3 = .ok (.aload_n 0, 1) := by decide +kernel
theorem dX12_isRule_4 : decode cX12_isRule 4 = .ok (.getfield 360, 3) := by decide +kernel
theorem dX12_isRule_7 : decode cX12_isRule 7 = .ok (.iconst 1, 1) := by decide +kernel
theorem dX12_isRule_8 : decode cX12_isRule 8 = .ok (.isub, 1) := by decide +kernel
theorem dX12_isRule_9 : decode cX12_isRule 9 = .ok (.i2l, 1) := by decide +kernel
theorem dX12_isRule_10 : decode cX12_isRule 10 = .ok (.invokestatic 201, 3) := by decide +kernel
theorem dX12_isRule_13 : decode cX12_isRule 13 = .ok (.ireturn, 1) := by decide +kernel
theorem dX12_likesIt_0 : decode cX12_likesIt 0 = .ok (.iload 4, 2) := by decide +kernel
theorem dX12_likesIt_2 : decode cX12_likesIt 2 = .ok (.iconst 1, 1) := by decide +kernel
theorem dX12_likesIt_3 : decode cX12_likesIt 3 = .ok (.iload_n 2, 1) := by decide +kernel
theorem dX12_likesIt_4 : decode cX12_likesIt 4 = .ok (.ishl, 1) := by decide +kernel
theorem dX12_likesIt_5 : decode cX12_likesIt 5 = .ok (.ior, 1) := by decide +kernel
theorem dX12_likesIt_6 : decode cX12_likesIt 6 = .ok (.istore 7, 2) := by decide +kernel
theorem dX12_likesIt_8 : decode cX12_likesIt 8 = .ok (.iload 5, 2) := by decide +kernel
theorem dX12_likesIt_10 : decode cX12_likesIt 10 = .ok (.iconst 1, 1) := by decide +kernel
theorem dX12_likesIt_11 : decode cX12_likesIt 11 = .ok (.iload_n 2, 1) := by decide +kernel
theorem dX12_likesIt_12 : decode cX12_likesIt 12 = .ok (.ishl, 1) := by decide +kernel
theorem dX12_likesIt_13 : decode cX12_likesIt 13 = .ok (.iconst (-1), 1) := by decide +kernel
theorem dX12_likesIt_14 : decode cX12_likesIt 14 = .ok (.ixor, 1) := by decide +kernel
theorem dX12_likesIt_15 : decode cX12_likesIt 15 = .ok (.iand, 1) := by decide +kernel
theorem dX12_likesIt_16 : decode cX12_likesIt 16 = .ok (.istore 8, 2) := by decide +kernel
theorem dX12_likesIt_18 : decode cX12_likesIt 18 = .ok (.aload_n 0, 1) := by decide +kernel
theorem dX12_likesIt_19 : decode cX12_likesIt 19 = .ok (.iconst 1, 1) := by decide +kernel
theorem dX12_likesIt_20 : decode cX12_likesIt 20 = .ok (.iload 7, 2) := by decide +kernel
theorem dX12_likesIt_22 : decode cX12_likesIt 22 = .ok (.iload 8, 2) := by decide +kernel
theorem dX12_likesIt_24 : decode cX12_likesIt 24 = .ok (.iload_n 3, 1) := by decide +kernel
theorem dX12_likesIt_25 : decode cX12_likesIt 25 = .ok (.invokevirtual 395, 3) := by decide +kernel
theorem dX12_likesIt_28 : decode cX12_likesIt 28 = .ok (.aload_n 0, 1) := by decide +kernel
theorem dX12_likesIt_29 : decode cX12_likesIt 29 = .ok (.iconst 1, 1) := by decide +kernel
theorem dX12_likesIt_30 : decode cX12_likesIt 30 = .ok (.iload 4, 2) := by decide +kernel
theorem dX12_likesIt_32 : decode cX12_likesIt 32 = .ok (.iload 5, 2) := by decide +kernel
theorem dX12_likesIt_34 : decode cX12_likesIt 34 = .ok (.iload_n 3, 1) := by decide +kernel
theorem dX12_likesIt_35 : decode cX12_likesIt 35 = .ok (.invokevirtual 395, 3) := by decide +kernel
theorem dX12_likesIt_38 : decode cX12_likesIt 38 = .ok (.isub, 1) := by decide +kernel
theorem dX12_likesIt_39 : decode cX12_likesIt 39 = .ok (.istore 9, 2) := by decide +kernel
theorem dX12_likesIt_41 : decode cX12_likesIt 41 = .ok (.aload_n 0, 1) := by decide +kernel
theorem dX12_likesIt_42 : decode cX12_likesIt 42 = .ok (.getfield 80, 3) := by decide +kernel
theorem dX12_likesIt_45 : decode cX12_likesIt 45 = .ok (.iconst 0, 1) := by decide +kernel
theorem dX12_likesIt_46 : decode cX12_likesIt 46 = .ok (.aload_n 0, 1) := by decide +kernel
theorem dX12_likesIt_47 : decode cX12_likesIt 47 = .ok (.iload_n 2, 1) := by decide +kernel
theorem dX12_likesIt_48 : decode cX12_likesIt 48 = .ok (.iload_n 3, 1) := by decide +kernel
theorem dX12_likesIt_49 : decode cX12_likesIt 49 = .ok (.invokevirtual 385, 3) := by decide +kernel
theorem dX12_likesIt_52 : decode cX12_likesIt 52 = .ok (.i2l, 1) := by decide +kernel
theorem dX12_likesIt_53 : decode cX12_likesIt 53 = .ok (.lastore, 1) := by decide +kernel
theorem dX12_likesIt_54 : decode cX12_likesIt 54 = .ok (.aload_n 0, 1) := by decide +kernel
theorem dX12_likesIt_55 : decode cX12_likesIt 55 = .ok (.getfield 80, 3) := by decide +kernel
theorem dX12_likesIt_58 : decode cX12_likesIt 58 = .ok (.iconst 1, 1) := by decide +kernel
theorem dX12_likesIt_59 : decode cX12_likesIt 59 = .ok (.aload_n 0, 1) := by decide +kernel
theorem dX12_likesIt_60 : decode cX12_likesIt 60 = .ok (.getfield 50, 3) := by decide +kernel
theorem dX12_likesIt_63 : decode cX12_likesIt 63 = .ok (.iload_n 2, 1) := by decide +kernel
theorem dX12_likesIt_64 : decode cX12_likesIt 64 = .ok (.iaload, 1) := by decide +kernel
theorem dX12_likesIt_65 : decode cX12_likesIt 65 = .ok (.i2l, 1) := by decide +kernel
theorem dX12_likesIt_66 : decode cX12_likesIt 66 = .ok (.lastore, 1) := by decide +kernel
theorem dX12_likesIt_67 : decode cX12_likesIt 67 = .ok (.aload_n 0, 1) := by decide +kernel
theorem dX12_likesIt_68 : decode cX12_likesIt 68 = .ok (.getfield 80, 3) := by decide +kernel
theorem dX12_likesIt_71 : decode cX12_likesIt 71 = .ok (.iconst 2, 1) := by decide +kernel
theorem dX12_likesIt_72 : decode cX12_likesIt 72 = .ok (.aload_n 0, 1) := by decide +kernel
theorem dX12_likesIt_73 : decode cX12_likesIt 73 = .ok (.getfield 53, 3) := by decide +kernel
theorem dX12_likesIt_76 : decode cX12_likesIt 76 = .ok (.iload_n 2, 1) := by decide +kernel
theorem dX12_likesIt_77 : decode cX12_likesIt 77 = .ok (.iaload, 1) := by decide +kernel
theorem dX12_likesIt_78 : decode cX12_likesIt 78 = .ok (.iconst (-1), 1) := by decide +kernel
theorem dX12_likesIt_79 : decode cX12_likesIt 79 = .ok (.if_icmp .ne 9, 3) := by decide +kernel
theorem dX12_likesIt_82 : decode cX12_likesIt 82 = .ok (.ldc2_w 535, 3) := by decide +kernel
theorem dX12_likesIt_85 : decode cX12_likesIt 85 = .ok (.goto 12, 3) := by decide +kernel
theorem dX12_likesIt_88 : decode cX12_likesIt 88 = .ok (.aload_n 0, 1) := by decide +kernel
theorem dX12_likesIt_89 : decode cX12_likesIt 89 = .ok (.getfield 53, 3) := by decide +kernel
theorem dX12_likesIt_92 : decode cX12_likesIt 92 = .ok (.iload_n 2, 1) := by decide +kernel
theorem dX12_likesIt_93 : decode cX12_likesIt 93 = .ok (.iaload, 1) := by decide +kernel
theorem dX12_likesIt_94 : decode cX12_likesIt 94 = .ok (.iload_n 3, 1) := by decide +kernel
theorem dX12_likesIt_95 : decode cX12_likesIt 95 = .ok (.isub, 1) := by decide +kernel
theorem dX12_likesIt_96 : decode cX12_likesIt 96 = .ok (.i2l, 1) := by decide +kernel
theorem dX12_likesIt_97 : decode cX12_likesIt 97 = .ok (.lastore, 1) := by decide +kernel
theorem dX12_likesIt_98 : decode cX12_likesIt 98 = .ok (.aload_n 0, 1) := by decide +kernel
theorem dX12_likesIt_99 : decode cX12_likesIt 99 = .ok (.getfield 80, 3) := by decide +kernel
theorem dX12_likesIt_102 : decode cX12_likesIt 102 = .ok (.iconst 3, 1) := by decide +kernel
theorem dX12_likesIt_103 : decode cX12_likesIt 103 = .ok (.iload 9, 2) := by decide +kernel
theorem dX12_likesIt_105 : decode cX12_likesIt 105 = .ok (.i2l, 1) := by decide +kernel
theorem dX12_likesIt_106 : decode cX12_likesIt 106 = .ok (.lastore, 1) := by decide +kernel
theorem dX12_likesIt_107 : decode cX12_likesIt 107 = .ok (.aload_n 0, 1) := by decide +kernel
theorem dX12_likesIt_108 : decode cX12_likesIt 108 = .ok (.getfield 80, 3) := by decide +kernel
theorem dX12_likesIt_111 : decode cX12_likesIt 111 = .ok (.iconst 4, 1) := by decide +kernel
theorem dX12_likesIt_112 : decode cX12_likesIt 112 = .ok (.aload_n 0, 1) := by decide +kernel
theorem dX12_likesIt_113 : decode cX12_likesIt 113 = .ok (.getfield 62, 3) := by decide +kernel
theorem dX12_likesIt_116 : decode cX12_likesIt 116 = .ok (.iload_n 2, 1) := by decide +kernel
theorem dX12_likesIt_117 : decode cX12_likesIt 117 = .ok (.iaload, 1) := by decide +kernel
theorem dX12_likesIt_118 : decode cX12_likesIt 118 = .ok (.i2l, 1) := by decide +kernel
theorem dX12_likesIt_119 : decode cX12_likesIt 119 = .ok (.lastore, 1) := by decide +kernel
theorem dX12_likesIt_120 : decode cX12_likesIt 120 = .ok (.aload_n 0, 1) := by decide +kernel
theorem dX12_likesIt_121 : decode cX12_likesIt 121 = .ok (.getfield 80, 3) := by decide +kernel
theorem dX12_likesIt_124 : decode cX12_likesIt 124 = .ok (.iconst 5, 1) := by decide +kernel
theorem dX12_likesIt_125 : decode cX12_likesIt 125 = .ok (.iload_n 3, 1) := by decide +kernel
theorem dX12_likesIt_126 : decode cX12_likesIt 126 = .ok (.i2l, 1) := by decide +kernel
theorem dX12_likesIt_127 : decode cX12_likesIt 127 = .ok (.lastore, 1) := by decide +kernel
theorem dX12_likesIt_128 : decode cX12_likesIt 128 = .ok (.aload_n 0, 1) := by decide +kernel
theorem dX12_likesIt_129 : decode cX12_likesIt 129 = .ok (.getfield 80, 3) := by decide +kernel
theorem dX12_likesIt_132 : decode cX12_likesIt 132 = .ok (.bipush 6, 2) := by decide +kernel
theorem dX12_likesIt_134 : decode cX12_likesIt 134 = .ok (.iload 6, 2) := by decide +kernel
theorem dX12_likesIt_136 : decode cX12_likesIt 136 = .ok (.i2l, 1) := by decide +kernel
theorem dX12_likesIt_137 : decode cX12_likesIt 137 = .ok (.lastore, 1) := by decide +kernel
theorem dX12_likesIt_138 : decode cX12_likesIt 138 = .ok (.aload_n 0, 1) := by decide +kernel
theorem dX12_likesIt_139 : decode cX12_likesIt 139 = .ok (.getfield 80, 3) := by decide +kernel
theorem dX12_likesIt_142 : decode cX12_likesIt 142 = .ok (.bipush 7, 2) := by decide +kernel
theorem dX12_likesIt_144 : decode cX12_likesIt 144 = .ok (.iload 4, 2) := by decide +kernel
theorem dX12_likesIt_146 : decode cX12_likesIt 146 = .ok (.invokestatic 357, 3) := by decide +kernel
theorem dX12_likesIt_149 : decode cX12_likesIt 149 = .ok (.i2l, 1) := by decide +kernel
theorem dX12_likesIt_150 : decode cX12_likesIt 150 = .ok (.lastore, 1) := by decide +kernel
theorem dX12_likesIt_151 : decode cX12_likesIt 151 = .ok (.aload_n 0, 1) := by decide +kernel
theorem dX12_likesIt_152 : decode cX12_likesIt 152 = .ok (.getfield 80, 3) := by decide +kernel
theorem dX12_likesIt_155 : decode cX12_likesIt 155 = .ok (.bipush 8, 2) := by decide +kernel
theorem dX12_likesIt_157 : decode cX12_likesIt 157 = .ok (.iload 5, 2) := by decide +kernel
theorem dX12_likesIt_159 : decode cX12_likesIt 159 = .ok (.invokestatic 357, 3) := by decide +kernel
theorem dX12_likesIt_162 : decode cX12_likesIt 162 = .ok (.i2l, 1) := by decide +kernel
theorem dX12_likesIt_163 : decode cX12_likesIt 163 = .ok (.lastore, 1) := by decide +kernel
theorem dX12_likesIt_164 : decode cX12_likesIt 164 = .ok (.iconst 2, 1) := by decide +kernel
theorem dX12_likesIt_165 : decode cX12_likesIt 165 = .ok (.iload_n 1, 1) := by decide +kernel
theorem dX12_likesIt_166 : decode cX12_likesIt 166 = .ok (.iadd, 1) := by decide +kernel
theorem dX12_likesIt_167 : decode cX12_likesIt 167 = .ok (.istore 10, 2) := by decide +kernel
theorem dX12_likesIt_169 : decode cX12_likesIt 169 = .ok (.bipush 24, 2) := by decide +kernel
theorem dX12_likesIt_171 : decode cX12_likesIt 171 = .ok (.iload 10, 2) := by decide +kernel
theorem dX12_likesIt_173 : decode cX12_likesIt 173 = .ok (.imul, 1) := by decide +kernel
theorem dX12_likesIt_174 : decode cX12_likesIt 174 = .ok (.istore 11, 2) := by decide +kernel
theorem dX12_likesIt_176 : decode cX12_likesIt 176 = .ok (.iload 11, 2) := by decide +kernel
theorem dX12_likesIt_178 : decode cX12_likesIt 178 = .ok (.bipush 24, 2) := by decide +kernel
theorem dX12_likesIt_180 : decode cX12_likesIt 180 = .ok (.iload 10, 2) := by decide +kernel
theorem dX12_likesIt_182 : decode cX12_likesIt 182 = .ok (.imul, 1) := by decide +kernel
theorem dX12_likesIt_183 : decode cX12_likesIt 183 = .ok (.aload_n 0, 1) := by decide +kernel
theorem dX12_likesIt_184 : decode cX12_likesIt 184 = .ok (.getfield 20, 3) := by decide +kernel
theorem dX12_likesIt_187 : decode cX12_likesIt 187 = .ok (.iload 10, 2) := by decide +kernel
theorem dX12_likesIt_189 : decode cX12_likesIt 189 = .ok (.iaload, 1) := by decide +kernel
theorem dX12_likesIt_190 : decode cX12_likesIt 190 = .ok (.iadd, 1) := by decide +kernel
theorem dX12_likesIt_191 : decode cX12_likesIt 191 = .ok (.if_icmp .ge 82, 3) := by decide +kernel
theorem dX12_likesIt_194 : decode cX12_likesIt 194 = .ok (.aload_n 0, 1) := by decide +kernel
theorem dX12_likesIt_195 : decode cX12_likesIt 195 = .ok (.getfield 23, 3) := by decide +kernel
theorem dX12_likesIt_198 : decode cX12_likesIt 198 = .ok (.iload 11, 2) := by decide +kernel
theorem dX12_likesIt_200 : decode cX12_likesIt 200 = .ok (.iaload, 1) := by decide +kernel
theorem dX12_likesIt_201 : decode cX12_likesIt 201 = .ok (.ifCond .ne 66, 3) := by decide +kernel
theorem dX12_likesIt_204 : decode cX12_likesIt 204 = .ok (.aload_n 0, 1) := by decide +kernel
theorem dX12_likesIt_205 : decode cX12_likesIt 205 = .ok (.getfield 35, 3) := by decide +kernel
theorem dX12_likesIt_208 : decode cX12_likesIt 208 = .ok (.iload 11, 2) := by decide +kernel
theorem dX12_likesIt_210 : decode cX12_likesIt 210 = .ok (.iaload, 1) := by decide +kernel
theorem dX12_likesIt_211 : decode cX12_likesIt 211 = .ok (.aload_n 0, 1) := by decide +kernel
theorem dX12_likesIt_212 : decode cX12_likesIt 212 = .ok (.getfield 38, 3) := by decide +kernel
theorem dX12_likesIt_215 : decode cX12_likesIt 215 = .ok (.iload 11, 2) := by decide +kernel
theorem dX12_likesIt_217 : decode cX12_likesIt 217 = .ok (.iaload, 1) := by decide +kernel
theorem dX12_likesIt_218 : decode cX12_likesIt 218 = .ok (.if_icmp .eq 28, 3) := by decide +kernel
theorem dX12_likesIt_221 : decode cX12_likesIt 221 = .ok (.aload_n 0, 1) := by decide +kernel
theorem dX12_likesIt_222 : decode cX12_likesIt 222 = .ok (.iload 10, 2) := by decide +kernel
theorem dX12_likesIt_224 : decode cX12_likesIt 224 = .ok (.aload_n 0, 1) := by decide +kernel
theorem dX12_likesIt_225 : decode cX12_likesIt 225 = .ok (.getfield 35, 3) := by decide +kernel
theorem dX12_likesIt_228 : decode cX12_likesIt 228 = .ok (.iload 11, 2) := by decide +kernel
theorem dX12_likesIt_230 : decode cX12_likesIt 230 = .ok (.iaload, 1) := by decide +kernel
theorem dX12_likesIt_231 : decode cX12_likesIt 231 = .ok (.aload_n 0, 1) := by decide +kernel
theorem dX12_likesIt_232 : decode cX12_likesIt 232 = .ok (.getfield 38, 3) := by decide +kernel
theorem dX12_likesIt_235 : decode cX12_likesIt 235 = .ok (.iload 11, 2) := by decide +kernel
theorem dX12_likesIt_237 : decode cX12_likesIt 237 = .ok (.iaload, 1) := by decide +kernel
theorem dX12_likesIt_238 : decode cX12_likesIt 238 = .ok (.invokevirtual 388, 3) := by decide +kernel
theorem dX12_likesIt_241 : decode cX12_likesIt 241 = .ok (.lconst 1, 1) := by decide +kernel
theorem dX12_likesIt_242 : decode cX12_likesIt 242 = .ok (.lcmp, 1) := by decide +kernel
theorem dX12_likesIt_243 : decode cX12_likesIt 243 = .ok (.ifCond .ne 24, 3) := by decide +kernel
theorem dX12_likesIt_246 : decode cX12_likesIt 246 = .ok (.aload_n 0, 1) := by decide +kernel
theorem dX12_likesIt_247 : decode cX12_likesIt 247 = .ok (.iload 10, 2) := by decide +kernel
theorem dX12_likesIt_249 : decode cX12_likesIt 249 = .ok (.aload_n 0, 1) := by decide +kernel
theorem dX12_likesIt_250 : decode cX12_likesIt 250 = .ok (.getfield 32, 3) := by decide +kernel
theorem dX12_likesIt_253 : decode cX12_likesIt 253 = .ok (.iload 11, 2) := by decide +kernel
theorem dX12_likesIt_255 : decode cX12_likesIt 255 = .ok (.iaload, 1) := by decide +kernel
theorem dX12_likesIt_256 : decode cX12_likesIt 256 = .ok (.aload_n 0, 1) := by decide +kernel
theorem dX12_likesIt_257 : decode cX12_likesIt 257 = .ok (.getfield 35, 3) := by decide +kernel
theorem dX12_likesIt_260 : decode cX12_likesIt 260 = .ok (.iload 11, 2) := by decide +kernel
theorem dX12_likesIt_262 : decode cX12_likesIt 262 = .ok (.iaload, 1) := by decide +kernel
theorem dX12_likesIt_263 : decode cX12_likesIt 263 = .ok (.invokevirtual 388, 3) := by decide +kernel
theorem dX12_likesIt_266 : decode cX12_likesIt 266 = .ok (.lreturn, 1) := by decide +kernel
theorem dX12_likesIt_267 : decode cX12_likesIt 267 = .ok (.iinc 11 1, 3) := by decide +kernel
theorem dX12_likesIt_270 : decode cX12_likesIt 270 = .ok (.goto (-94), 3) := by decide +kernel
theorem dX12_likesIt_273 : decode cX12_likesIt 273 = .ok (.lconst 0, 1) := by decide +kernel
theorem dX12_likesIt_274 : decode cX12_likesIt 274 = .ok (.lreturn, 1) := by decide +kernel
theorem dX12_likes_0 : decode cX12_likes 0 = .ok (.aload_n 0, 1) := by decide +kernel
theorem dX12_likes_1 : decode cX12_likes 1 = .ok (.iload_n 1, 1) := by decide +kernel
theorem dX12_likes_2 : decode cX12_likes 2 = .ok (.invokevirtual 537, 3) := by decide +kernel
theorem dX12_likes_5 : decode cX12_likes 5 = .ok (.ifCond .eq 51, 3) := by decide +kernel
theorem dX12_likes_8 : decode cX12_likes 8 = .ok (.aload_n 0, 1) := by decide +kernel
theorem dX12_likes_9 : decode cX12_likes 9 = .ok (.iload_n 2, 1) := by decide +kernel
theorem dX12_likes_10 : decode cX12_likes 10 = .ok (.invokevirtual 375, 3) := by decide +kernel
theorem dX12_likes_13 : decode cX12_likes 13 = .ok (.ifCond .eq 43, 3) := by decide +kernel
theorem dX12_likes_16 : decode cX12_likes 16 = .ok (.aload_n 0, 1) := by decide +kernel
theorem dX12_likes_17 : decode cX12_likes 17 = .ok (.iload_n 3, 1) := by decide +kernel
theorem dX12_likes_18 : decode cX12_likes 18 = .ok (.invokevirtual 526, 3) := by decide +kernel
theorem dX12_likes_21 : decode cX12_likes 21 = .ok (.ifCond .eq 35, 3) := by decide +kernel
theorem dX12_likes_24 : decode cX12_likes 24 = .ok (.aload_n 0, 1) := by decide +kernel
theorem dX12_likes_25 : decode cX12_likes 25 = .ok (.iload 4, 2) := by decide +kernel
theorem dX12_likes_27 : decode cX12_likes 27 = .ok (.invokevirtual 392, 3) := by decide +kernel
theorem dX12_likes_30 : decode cX12_likes 30 = .ok (.ifCond .eq 26, 3) := by decide +kernel
theorem dX12_likes_33 : decode cX12_likes 33 = .ok (.iload 4, 2) := by decide +kernel
theorem dX12_likes_35 : decode cX12_likes 35 = .ok (.iload_n 2, 1) := by decide +kernel
theorem dX12_likes_36 : decode cX12_likes 36 = .ok (.ishr, 1) := by decide +kernel
theorem dX12_likes_37 : decode cX12_likes 37 = .ok (.iconst 1, 1) := by decide +kernel
theorem dX12_likes_38 : decode cX12_likes 38 = .ok (.iand, 1) := by decide +kernel
theorem dX12_likes_39 : decode cX12_likes 39 = .ok (.iconst 1, 1) := by decide +kernel
theorem dX12_likes_40 : decode cX12_likes 40 = .ok (.if_icmp .eq 16, 3) := by decide +kernel
theorem dX12_likes_43 : decode cX12_likes 43 = .ok (.iload 5, 2) := by decide +kernel
theorem dX12_likes_45 : decode cX12_likes 45 = .ok (.i2l, 1) := by decide +kernel
theorem dX12_likes_46 : decode cX12_likes 46 = .ok (.lconst 0, 1) := by decide +kernel
theorem dX12_likes_47 : decode cX12_likes 47 = .ok (.ldc2_w 540, 3) := by decide +kernel
theorem dX12_likes_50 : decode cX12_likes 50 = .ok (.invokestatic 201, 3) := by decide +kernel
theorem dX12_likes_53 : decode cX12_likes 53 = .ok (.ifCond .ne 5, 3) := by decide +kernel
theorem dX12_likes_56 : decode cX12_likes 56 = .ok (.lconst 0, 1) := by decide +kernel
theorem dX12_likes_57 : decode cX12_likes 57 = .ok (.lreturn, 1) := by decide +kernel
theorem dX12_likes_58 : decode cX12_likes 58 = .ok (.aload_n 0, 1) := by decide +kernel
theorem dX12_likes_59 : decode cX12_likes 59 = .ok (.iload_n 1, 1) := by decide +kernel
theorem dX12_likes_60 : decode cX12_likes 60 = .ok (.iload_n 2, 1) := by decide +kernel
theorem dX12_likes_61 : decode cX12_likes 61 = .ok (.iload_n 3, 1) := by decide +kernel
theorem dX12_likes_62 : decode cX12_likes 62 = .ok (.iload 4, 2) := by decide +kernel
theorem dX12_likes_64 : decode cX12_likes 64 = .ok (.aload_n 0, 1) := by decide +kernel
theorem dX12_likes_65 : decode cX12_likes 65 = .ok (.invokevirtual 354, 3) := by decide +kernel
theorem dX12_likes_68 : decode cX12_likes 68 = .ok (.iload 4, 2) := by decide +kernel
theorem dX12_likes_70 : decode cX12_likes 70 = .ok (.iconst (-1), 1) := by decide +kernel
theorem dX12_likes_71 : decode cX12_likes 71 = .ok (.ixor, 1) := by decide +kernel
theorem dX12_likes_72 : decode cX12_likes 72 = .ok (.iand, 1) := by decide +kernel
theorem dX12_likes_73 : decode cX12_likes 73 = .ok (.iload 5, 2) := by decide +kernel
theorem dX12_likes_75 : decode cX12_likes 75 = .ok (.invokevirtual 542, 3) := by decide +kernel
theorem dX12_likes_78 : decode cX12_likes 78 = .ok (.lreturn, 1) := by decide +kernel
theorem dX12_keeps_0 : decode cX12_keeps 0 = .ok (.iconst 0, 1) := by decide +kernel
theorem dX12_keeps_1 : decode cX12_keeps 1 = .ok (.istore_n 2, 1) := by decide +kernel
theorem dX12_keeps_2 : decode cX12_keeps 2 = .ok (.iconst 2, 1) := by decide +kernel
theorem dX12_keeps_3 : decode cX12_keeps 3 = .ok (.iload_n 1, 1) := by decide +kernel
theorem dX12_keeps_4 : decode cX12_keeps 4 = .ok (.iadd, 1) := by decide +kernel
theorem dX12_keeps_5 : decode cX12_keeps 5 = .ok (.istore_n 3, 1) := by decide +kernel
theorem dX12_keeps_6 : decode cX12_keeps 6 = .ok (.bipush 24, 2) := by decide +kernel
theorem dX12_keeps_8 : decode cX12_keeps 8 = .ok (.iload_n 3, 1) := by decide +kernel
theorem dX12_keeps_9 : decode cX12_keeps 9 = .ok (.imul, 1) := by decide +kernel
theorem dX12_keeps_10 : decode cX12_keeps 10 = .ok (.istore 4, 2) := by decide +kernel
theorem dX12_keeps_12 : decode cX12_keeps 12 = .ok (.iload 4, 2) := by decide +kernel
theorem dX12_keeps_14 : decode cX12_keeps 14 = .ok (.bipush 24, 2) := by decide +kernel
theorem dX12_keeps_16 : decode cX12_keeps 16 = .ok (.iload_n 3, 1) := by decide +kernel
theorem dX12_keeps_17 : decode cX12_keeps 17 = .ok (.imul, 1) := by decide +kernel
theorem dX12_keeps_18 : decode cX12_keeps 18 = .ok (.aload_n 0, 1) := by decide +kernel
theorem dX12_keeps_19 : decode cX12_keeps 19 = .ok (.getfield 20, 3) := by decide +kernel
theorem dX12_keeps_22 : decode cX12_keeps 22 = .ok (.iload_n 3, 1) := by decide +kernel
theorem dX12_keeps_23 : decode cX12_keeps 23 = .ok (.iaload, 1) := by decide +kernel
theorem dX12_keeps_24 : decode cX12_keeps 24 = .ok (.iadd, 1) := by decide +kernel
theorem dX12_keeps_25 : decode cX12_keeps 25 = .ok (.if_icmp .ge 32, 3) := by decide +kernel
theorem dX12_keeps_28 : decode cX12_keeps 28 = .ok (.aload_n 0, 1) := by decide +kernel
theorem dX12_keeps_29 : decode cX12_keeps 29 = .ok (.getfield 23, 3) := by decide +kernel
theorem dX12_keeps_32 : decode cX12_keeps 32 = .ok (.iload 4, 2) := by decide +kernel
theorem dX12_keeps_34 : decode cX12_keeps 34 = .ok (.iaload, 1) := by decide +kernel
theorem dX12_keeps_35 : decode cX12_keeps 35 = .ok (.iconst 1, 1) := by decide +kernel
theorem dX12_keeps_36 : decode cX12_keeps 36 = .ok (.if_icmp .ne 13, 3) := by decide +kernel
theorem dX12_keeps_39 : decode cX12_keeps 39 = .ok (.aload_n 0, 1) := by decide +kernel
theorem dX12_keeps_40 : decode cX12_keeps 40 = .ok (.getfield 29, 3) := by decide +kernel
theorem dX12_keeps_43 : decode cX12_keeps 43 = .ok (.iload 4, 2) := by decide +kernel
theorem dX12_keeps_45 : decode cX12_keeps 45 = .ok (.iaload, 1) := by decide +kernel
theorem dX12_keeps_46 : decode cX12_keeps 46 = .ok (.goto 4, 3) := by decide +kernel
theorem dX12_keeps_49 : decode cX12_keeps 49 = .ok (.iload_n 2, 1) := by decide +kernel
theorem dX12_keeps_50 : decode cX12_keeps 50 = .ok (.istore_n 2, 1) := by decide +kernel
theorem dX12_keeps_51 : decode cX12_keeps 51 = .ok (.iinc 4 1, 3) := by decide +kernel
theorem dX12_keeps_54 : decode cX12_keeps 54 = .ok (.goto (-42), 3) := by decide +kernel
theorem dX12_keeps_57 : decode cX12_keeps 57 = .ok (.iload_n 2, 1) := by decide +kernel
theorem dX12_keeps_58 : decode cX12_keeps 58 = .ok (.ireturn, 1) := by decide +kernel
theorem dX12_nextOf_0 : decode cX12_nextOf 0 = .ok (.aload_n 0, 1) := by decide +kernel
theorem dX12_nextOf_1 : decode cX12_nextOf 1 = .ok (.iconst 1, 1) := by decide +kernel
theorem dX12_nextOf_2 : decode cX12_nextOf 2 = .ok (.invokevirtual 420, 3) := by decide +kernel
theorem dX12_nextOf_5 : decode cX12_nextOf 5 = .ok (.istore_n 3, 1) := by decide +kernel
theorem dX12_nextOf_6 : decode cX12_nextOf 6 = .ok (.aload_n 0, 1) := by decide +kernel
theorem dX12_nextOf_7 : decode cX12_nextOf 7 = .ok (.iconst 0, 1) := by decide +kernel
theorem dX12_nextOf_8 : decode cX12_nextOf 8 = .ok (.invokevirtual 420, 3) := by decide +kernel
theorem dX12_nextOf_11 : decode cX12_nextOf 11 = .ok (.istore 4, 2) := by decide +kernel
theorem dX12_nextOf_13 : decode cX12_nextOf 13 = .ok (.aload_n 0, 1) := by decide +kernel
theorem dX12_nextOf_14 : decode cX12_nextOf 14 = .ok (.iload_n 1, 1) := by decide +kernel
theorem dX12_nextOf_15 : decode cX12_nextOf 15 = .ok (.invokevirtual 546, 3) := by decide +kernel
theorem dX12_nextOf_18 : decode cX12_nextOf 18 = .ok (.istore 5, 2) := by decide +kernel
theorem dX12_nextOf_20 : decode cX12_nextOf 20 = .ok (.iconst (-1), 1) := by decide +kernel
theorem dX12_nextOf_21 : decode cX12_nextOf 21 = .ok (.istore 6, 2) := by decide +kernel
theorem dX12_nextOf_23 : decode cX12_nextOf 23 = .ok (.lconst 0, 1) := by decide +kernel
theorem dX12_nextOf_24 : decode cX12_nextOf 24 = .ok (.lstore 7, 2) := by decide +kernel
theorem dX12_nextOf_26 : decode cX12_nextOf 26 = .ok (.iconst 0, 1) := by decide +kernel
theorem dX12_nextOf_27 : decode cX12_nextOf 27 = .ok (.istore 9, 2) := by decide +kernel
theorem dX12_nextOf_29 : decode cX12_nextOf 29 = .ok (.iload 9, 2) := by decide +kernel
theorem dX12_nextOf_31 : decode cX12_nextOf 31 = .ok (.bipush 8, 2) := by decide +kernel
theorem dX12_nextOf_33 : decode cX12_nextOf 33 = .ok (.if_icmp .ge 87, 3) := by decide +kernel
theorem dX12_nextOf_36 : decode cX12_nextOf 36 = .ok (.aload_n 0, 1) := by decide +kernel
theorem dX12_nextOf_37 : decode cX12_nextOf 37 = .ok (.getfield 96, 3) := by decide +kernel
theorem dX12_nextOf_40 : decode cX12_nextOf 40 = .ok (.iload 9, 2) := by decide +kernel
theorem dX12_nextOf_42 : decode cX12_nextOf 42 = .ok (.iaload, 1) := by decide +kernel
theorem dX12_nextOf_43 : decode cX12_nextOf 43 = .ok (.ifCond .ne 71, 3) := by decide +kernel
theorem dX12_nextOf_46 : decode cX12_nextOf 46 = .ok (.aload_n 0, 1) := by decide +kernel
theorem dX12_nextOf_47 : decode cX12_nextOf 47 = .ok (.iload 9, 2) := by decide +kernel
theorem dX12_nextOf_49 : decode cX12_nextOf 49 = .ok (.iload_n 2, 1) := by decide +kernel
theorem dX12_nextOf_50 : decode cX12_nextOf 50 = .ok (.invokevirtual 385, 3) := by decide +kernel
theorem dX12_nextOf_53 : decode cX12_nextOf 53 = .ok (.aload_n 0, 1) := by decide +kernel
theorem dX12_nextOf_54 : decode cX12_nextOf 54 = .ok (.getfield 401, 3) := by decide +kernel
theorem dX12_nextOf_57 : decode cX12_nextOf 57 = .ok (.iload 5, 2) := by decide +kernel
theorem dX12_nextOf_59 : decode cX12_nextOf 59 = .ok (.isub, 1) := by decide +kernel
theorem dX12_nextOf_60 : decode cX12_nextOf 60 = .ok (.if_icmp .gt 54, 3) := by decide +kernel
theorem dX12_nextOf_63 : decode cX12_nextOf 63 = .ok (.aload_n 0, 1) := by decide +kernel
theorem dX12_nextOf_64 : decode cX12_nextOf 64 = .ok (.iload_n 1, 1) := by decide +kernel
theorem dX12_nextOf_65 : decode cX12_nextOf 65 = .ok (.iload 9, 2) := by decide +kernel
theorem dX12_nextOf_67 : decode cX12_nextOf 67 = .ok (.iload_n 2, 1) := by decide +kernel
theorem dX12_nextOf_68 : decode cX12_nextOf 68 = .ok (.iload_n 3, 1) := by decide +kernel
theorem dX12_nextOf_69 : decode cX12_nextOf 69 = .ok (.iload 4, 2) := by decide +kernel
theorem dX12_nextOf_71 : decode cX12_nextOf 71 = .ok (.aload_n 0, 1) := by decide +kernel
theorem dX12_nextOf_72 : decode cX12_nextOf 72 = .ok (.getfield 401, 3) := by decide +kernel
theorem dX12_nextOf_75 : decode cX12_nextOf 75 = .ok (.invokevirtual 542, 3) := by decide +kernel
theorem dX12_nextOf_78 : decode cX12_nextOf 78 = .ok (.lstore 10, 2) := by decide +kernel
theorem dX12_nextOf_80 : decode cX12_nextOf 80 = .ok (.lload 10, 2) := by decide +kernel
theorem dX12_nextOf_82 : decode cX12_nextOf 82 = .ok (.lload 7, 2) := by decide +kernel
theorem dX12_nextOf_84 : decode cX12_nextOf 84 = .ok (.lcmp, 1) := by decide +kernel
theorem dX12_nextOf_85 : decode cX12_nextOf 85 = .ok (.ifCond .le 8, 3) := by decide +kernel
theorem dX12_nextOf_88 : decode cX12_nextOf 88 = .ok (.iload 9, 2) := by decide +kernel
theorem dX12_nextOf_90 : decode cX12_nextOf 90 = .ok (.goto 5, 3) := by decide +kernel
theorem dX12_nextOf_93 : decode cX12_nextOf 93 = .ok (.iload 6, 2) := by decide +kernel
theorem dX12_nextOf_95 : decode cX12_nextOf 95 = .ok (.istore 6, 2) := by decide +kernel
theorem dX12_nextOf_97 : decode cX12_nextOf 97 = .ok (.lload 10, 2) := by decide +kernel
theorem dX12_nextOf_99 : decode cX12_nextOf 99 = .ok (.lload 7, 2) := by decide +kernel
theorem dX12_nextOf_101 : decode cX12_nextOf 101 = .ok (.lcmp, 1) := by decide +kernel
theorem dX12_nextOf_102 : decode cX12_nextOf 102 = .ok (.ifCond .le 8, 3) := by decide +kernel
theorem dX12_nextOf_105 : decode cX12_nextOf 105 = .ok (.lload 10, 2) := by decide +kernel
theorem dX12_nextOf_107 : decode cX12_nextOf 107 = .ok (.goto 5, 3) := by decide +kernel
theorem dX12_nextOf_110 : decode cX12_nextOf 110 = .ok (.lload 7, 2) := by decide +kernel
theorem dX12_nextOf_112 : decode cX12_nextOf 112 = .ok (.lstore 7, 2) := by decide +kernel
theorem dX12_nextOf_114 : decode cX12_nextOf 114 = .ok (.iinc 9 1, 3) := by decide +kernel
theorem dX12_nextOf_117 : decode cX12_nextOf 117 = .ok (.goto (-88), 3) := by decide +kernel
theorem dX12_nextOf_120 : decode cX12_nextOf 120 = .ok (.iload 6, 2) := by decide +kernel
theorem dX12_nextOf_122 : decode cX12_nextOf 122 = .ok (.ireturn, 1) := by decide +kernel
theorem dX12_follows_0 : decode cX12_follows 0 = .ok (.aload_n 0, 1) := by decide +kernel
theorem dX12_follows_1 : decode cX12_follows 1 = .ok (.invokevirtual 437, 3) := by decide +kernel
theorem dX12_follows_4 : decode cX12_follows 4 = .ok (.iconst 0, 1) := by decide +kernel
theorem dX12_follows_5 : decode cX12_follows 5 = .ok (.istore_n 3, 1) := by decide +kernel
theorem dX12_follows_6 : decode cX12_follows 6 = .ok (.iload_n 3, 1) := by decide +kernel
theorem dX12_follows_7 : decode cX12_follows 7 = .ok (.bipush 8, 2) := by decide +kernel
theorem dX12_follows_9 : decode cX12_follows 9 = .ok (.if_icmp .ge 16, 3) := by decide +kernel
theorem dX12_follows_12 : decode cX12_follows 12 = .ok (.aload_n 0, 1) := by decide +kernel
theorem dX12_follows_13 : decode cX12_follows 13 = .ok (.getfield 124, 3) := by decide +kernel
theorem dX12_follows_16 : decode cX12_follows 16 = .ok (.iload_n 3, 1) := by decide +kernel
theorem dX12_follows_17 : decode cX12_follows 17 = .ok (.iconst (-1), 1) := by decide +kernel
theorem dX12_follows_18 : decode cX12_follows 18 = .ok (.iastore, 1) := by decide +kernel
theorem dX12_follows_19 : decode cX12_follows 19 = .ok (.iinc 3 1, 3) := by decide +kernel
theorem dX12_follows_22 : decode cX12_follows 22 = .ok (.goto (-16), 3) := by decide +kernel
theorem dX12_follows_25 : decode cX12_follows 25 = .ok (.iconst 0, 1) := by decide +kernel
theorem dX12_follows_26 : decode cX12_follows 26 = .ok (.istore_n 3, 1) := by decide +kernel
theorem dX12_follows_27 : decode cX12_follows 27 = .ok (.iload_n 3, 1) := by decide +kernel
theorem dX12_follows_28 : decode cX12_follows 28 = .ok (.aload_n 0, 1) := by decide +kernel
theorem dX12_follows_29 : decode cX12_follows 29 = .ok (.getfield 77, 3) := by decide +kernel
theorem dX12_follows_32 : decode cX12_follows 32 = .ok (.iconst 0, 1) := by decide +kernel
theorem dX12_follows_33 : decode cX12_follows 33 = .ok (.iaload, 1) := by decide +kernel
theorem dX12_follows_34 : decode cX12_follows 34 = .ok (.if_icmp .ge 112, 3) := by decide +kernel
theorem dX12_follows_37 : decode cX12_follows 37 = .ok (.aload_n 0, 1) := by decide +kernel
theorem dX12_follows_38 : decode cX12_follows 38 = .ok (.iload_n 2, 1) := by decide +kernel
theorem dX12_follows_39 : decode cX12_follows 39 = .ok (.iconst 0, 1) := by decide +kernel
theorem dX12_follows_40 : decode cX12_follows 40 = .ok (.iload_n 3, 1) := by decide +kernel
theorem dX12_follows_41 : decode cX12_follows 41 = .ok (.invokevirtual 440, 3) := by decide +kernel
theorem dX12_follows_44 : decode cX12_follows 44 = .ok (.istore 4, 2) := by decide +kernel
theorem dX12_follows_46 : decode cX12_follows 46 = .ok (.aload_n 0, 1) := by decide +kernel
theorem dX12_follows_47 : decode cX12_follows 47 = .ok (.getfield 411, 3) := by decide +kernel
theorem dX12_follows_50 : decode cX12_follows 50 = .ok (.iconst (-1), 1) := by decide +kernel
theorem dX12_follows_51 : decode cX12_follows 51 = .ok (.if_icmp .ne 89, 3) := by decide +kernel
theorem dX12_follows_54 : decode cX12_follows 54 = .ok (.aload_n 0, 1) := by decide +kernel
theorem dX12_follows_55 : decode cX12_follows 55 = .ok (.iload_n 3, 1) := by decide +kernel
theorem dX12_follows_56 : decode cX12_follows 56 = .ok (.invokevirtual 444, 3) := by decide +kernel
theorem dX12_follows_59 : decode cX12_follows 59 = .ok (.aload_n 0, 1) := by decide +kernel
theorem dX12_follows_60 : decode cX12_follows 60 = .ok (.iload_n 1, 1) := by decide +kernel
theorem dX12_follows_61 : decode cX12_follows 61 = .ok (.iload_n 3, 1) := by decide +kernel
theorem dX12_follows_62 : decode cX12_follows 62 = .ok (.invokevirtual 549, 3) := by decide +kernel
theorem dX12_follows_65 : decode cX12_follows 65 = .ok (.istore 5, 2) := by decide +kernel
theorem dX12_follows_67 : decode cX12_follows 67 = .ok (.iload 5, 2) := by decide +kernel
theorem dX12_follows_69 : decode cX12_follows 69 = .ok (.iconst (-1), 1) := by decide +kernel
theorem dX12_follows_70 : decode cX12_follows 70 = .ok (.if_icmp .eq 46, 3) := by decide +kernel
theorem dX12_follows_73 : decode cX12_follows 73 = .ok (.aload_n 0, 1) := by decide +kernel
theorem dX12_follows_74 : decode cX12_follows 74 = .ok (.dup, 1) := by decide +kernel
theorem dX12_follows_75 : decode cX12_follows 75 = .ok (.getfield 401, 3) := by decide +kernel
theorem dX12_follows_78 : decode cX12_follows 78 = .ok (.aload_n 0, 1) := by decide +kernel
theorem dX12_follows_79 : decode cX12_follows 79 = .ok (.iload 5, 2) := by decide +kernel
theorem dX12_follows_81 : decode cX12_follows 81 = .ok (.iload_n 3, 1) := by decide +kernel
theorem dX12_follows_82 : decode cX12_follows 82 = .ok (.invokevirtual 385, 3) := by decide +kernel
theorem dX12_follows_85 : decode cX12_follows 85 = .ok (.isub, 1) := by decide +kernel
theorem dX12_follows_86 : decode cX12_follows 86 = .ok (.putfield 401, 3) := by decide +kernel
theorem dX12_follows_89 : decode cX12_follows 89 = .ok (.aload_n 0, 1) := by decide +kernel
theorem dX12_follows_90 : decode cX12_follows 90 = .ok (.getfield 96, 3) := by decide +kernel
theorem dX12_follows_93 : decode cX12_follows 93 = .ok (.iload 5, 2) := by decide +kernel
theorem dX12_follows_95 : decode cX12_follows 95 = .ok (.iconst 1, 1) := by decide +kernel
theorem dX12_follows_96 : decode cX12_follows 96 = .ok (.iastore, 1) := by decide +kernel
theorem dX12_follows_97 : decode cX12_follows 97 = .ok (.aload_n 0, 1) := by decide +kernel
theorem dX12_follows_98 : decode cX12_follows 98 = .ok (.getfield 124, 3) := by decide +kernel
theorem dX12_follows_101 : decode cX12_follows 101 = .ok (.iload 5, 2) := by decide +kernel
theorem dX12_follows_103 : decode cX12_follows 103 = .ok (.iload_n 3, 1) := by decide +kernel
theorem dX12_follows_104 : decode cX12_follows 104 = .ok (.iastore, 1) := by decide +kernel
theorem dX12_follows_105 : decode cX12_follows 105 = .ok (.aload_n 0, 1) := by decide +kernel
theorem dX12_follows_106 : decode cX12_follows 106 = .ok (.iload_n 1, 1) := by decide +kernel
theorem dX12_follows_107 : decode cX12_follows 107 = .ok (.iload_n 3, 1) := by decide +kernel
theorem dX12_follows_108 : decode cX12_follows 108 = .ok (.invokevirtual 549, 3) := by decide +kernel
theorem dX12_follows_111 : decode cX12_follows 111 = .ok (.istore 5, 2) := by decide +kernel
theorem dX12_follows_113 : decode cX12_follows 113 = .ok (.goto (-46), 3) := by decide +kernel
theorem dX12_follows_116 : decode cX12_follows 116 = .ok (.aload_n 0, 1) := by decide +kernel
theorem dX12_follows_117 : decode cX12_follows 117 = .ok (.dup, 1) := by decide +kernel
theorem dX12_follows_118 : decode cX12_follows 118 = .ok (.getfield 414, 3) := by decide +kernel
theorem dX12_follows_121 : decode cX12_follows 121 = .ok (.aload_n 0, 1) := by decide +kernel
theorem dX12_follows_122 : decode cX12_follows 122 = .ok (.iload_n 3, 1) := by decide +kernel
theorem dX12_follows_123 : decode cX12_follows 123 = .ok (.iload 4, 2) := by decide +kernel
theorem dX12_follows_125 : decode cX12_follows 125 = .ok (.invokevirtual 450, 3) := by decide +kernel
theorem dX12_follows_128 : decode cX12_follows 128 = .ok (.ifCond .eq 7, 3) := by decide +kernel
theorem dX12_follows_131 : decode cX12_follows 131 = .ok (.iconst 1, 1) := by decide +kernel
theorem dX12_follows_132 : decode cX12_follows 132 = .ok (.goto 4, 3) := by decide +kernel
theorem dX12_follows_135 : decode cX12_follows 135 = .ok (.iconst 0, 1) := by decide +kernel
theorem dX12_follows_136 : decode cX12_follows 136 = .ok (.iadd, 1) := by decide +kernel
theorem dX12_follows_137 : decode cX12_follows 137 = .ok (.putfield 414, 3) := by decide +kernel
theorem dX12_follows_140 : decode cX12_follows 140 = .ok (.iinc 3 1, 3) := by decide +kernel
theorem dX12_follows_143 : decode cX12_follows 143 = .ok (.goto (-116), 3) := by decide +kernel
theorem dX12_follows_146 : decode cX12_follows 146 = .ok (.return_, 1) := by decide +kernel
theorem dX12_ruled_0 : decode cX12_ruled 0 = .ok (.aload_n 0, 1) := by decide +kernel
theorem dX12_ruled_1 : decode cX12_ruled 1 = .ok (.iload_n 1, 1) := by decide +kernel
theorem dX12_ruled_2 : decode cX12_ruled 2 = .ok (.invokevirtual 537, 3) := by decide +kernel
theorem dX12_ruled_5 : decode cX12_ruled 5 = .ok (.ifCond .eq 15, 3) := by decide +kernel
theorem dX12_ruled_8 : decode cX12_ruled 8 = .ok (.iload_n 2, 1) := by decide +kernel
theorem dX12_ruled_9 : decode cX12_ruled 9 = .ok (.i2l, 1) := by decide +kernel
theorem dX12_ruled_10 : decode cX12_ruled 10 = .ok (.lconst 0, 1) := by decide +kernel
theorem dX12_ruled_11 : decode cX12_ruled 11 = .ok (.ldc2_w 552, 3) := by decide +kernel
theorem dX12_ruled_14 : decode cX12_ruled 14 = .ok (.invokestatic 201, 3) := by decide +kernel
theorem dX12_ruled_17 : decode cX12_ruled 17 = .ok (.ifCond .ne 6, 3) := by decide +kernel
theorem dX12_ruled_20 : decode cX12_ruled 20 = .ok (.bipush (-2), 2) := by decide +kernel
theorem dX12_ruled_22 : decode cX12_ruled 22 = .ok (.ireturn, 1) := by decide +kernel
theorem dX12_ruled_23 : decode cX12_ruled 23 = .ok (.iload_n 2, 1) := by decide +kernel
theorem dX12_ruled_24 : decode cX12_ruled 24 = .ok (.iconst 3, 1) := by decide +kernel
theorem dX12_ruled_25 : decode cX12_ruled 25 = .ok (.if_icmp .ne 10, 3) := by decide +kernel
theorem dX12_ruled_28 : decode cX12_ruled 28 = .ok (.aload_n 0, 1) := by decide +kernel
theorem dX12_ruled_29 : decode cX12_ruled 29 = .ok (.invokevirtual 518, 3) := by decide +kernel
theorem dX12_ruled_32 : decode cX12_ruled 32 = .ok (.goto 4, 3) := by decide +kernel
theorem dX12_ruled_35 : decode cX12_ruled 35 = .ok (.iconst 0, 1) := by decide +kernel
theorem dX12_ruled_36 : decode cX12_ruled 36 = .ok (.istore_n 3, 1) := by decide +kernel
theorem dX12_ruled_37 : decode cX12_ruled 37 = .ok (.aload_n 0, 1) := by decide +kernel
theorem dX12_ruled_38 : decode cX12_ruled 38 = .ok (.iload_n 1, 1) := by decide +kernel
theorem dX12_ruled_39 : decode cX12_ruled 39 = .ok (.iconst 0, 1) := by decide +kernel
theorem dX12_ruled_40 : decode cX12_ruled 40 = .ok (.invokevirtual 554, 3) := by decide +kernel
theorem dX12_ruled_43 : decode cX12_ruled 43 = .ok (.iload_n 2, 1) := by decide +kernel
theorem dX12_ruled_44 : decode cX12_ruled 44 = .ok (.iconst 3, 1) := by decide +kernel
theorem dX12_ruled_45 : decode cX12_ruled 45 = .ok (.if_icmp .ne 29, 3) := by decide +kernel
theorem dX12_ruled_48 : decode cX12_ruled 48 = .ok (.iload_n 3, 1) := by decide +kernel
theorem dX12_ruled_49 : decode cX12_ruled 49 = .ok (.iconst (-1), 1) := by decide +kernel
theorem dX12_ruled_50 : decode cX12_ruled 50 = .ok (.if_icmp .eq 11, 3) := by decide +kernel
theorem dX12_ruled_53 : decode cX12_ruled 53 = .ok (.aload_n 0, 1) := by decide +kernel
theorem dX12_ruled_54 : decode cX12_ruled 54 = .ok (.getfield 411, 3) := by decide +kernel
theorem dX12_ruled_57 : decode cX12_ruled 57 = .ok (.iconst (-1), 1) := by decide +kernel
theorem dX12_ruled_58 : decode cX12_ruled 58 = .ok (.if_icmp .eq 9, 3) := by decide +kernel
theorem dX12_ruled_61 : decode cX12_ruled 61 = .ok (.ldc_w 525, 3) := by decide +kernel
theorem dX12_ruled_64 : decode cX12_ruled 64 = .ok (.goto 9, 3) := by decide +kernel
theorem dX12_ruled_67 : decode cX12_ruled 67 = .ok (.iload_n 3, 1) := by decide +kernel
theorem dX12_ruled_68 : decode cX12_ruled 68 = .ok (.aload_n 0, 1) := by decide +kernel
theorem dX12_ruled_69 : decode cX12_ruled 69 = .ok (.getfield 401, 3) := by decide +kernel
theorem dX12_ruled_72 : decode cX12_ruled 72 = .ok (.isub, 1) := by decide +kernel
theorem dX12_ruled_73 : decode cX12_ruled 73 = .ok (.ireturn, 1) := by decide +kernel
theorem dX12_ruled_74 : decode cX12_ruled 74 = .ok (.iload_n 2, 1) := by decide +kernel
theorem dX12_ruled_75 : decode cX12_ruled 75 = .ok (.ifCond .ne 10, 3) := by decide +kernel
theorem dX12_ruled_78 : decode cX12_ruled 78 = .ok (.aload_n 0, 1) := by decide +kernel
theorem dX12_ruled_79 : decode cX12_ruled 79 = .ok (.getfield 401, 3) := by decide +kernel
theorem dX12_ruled_82 : decode cX12_ruled 82 = .ok (.goto 20, 3) := by decide +kernel
theorem dX12_ruled_85 : decode cX12_ruled 85 = .ok (.iload_n 2, 1) := by decide +kernel
theorem dX12_ruled_86 : decode cX12_ruled 86 = .ok (.iconst 1, 1) := by decide +kernel
theorem dX12_ruled_87 : decode cX12_ruled 87 = .ok (.if_icmp .ne 11, 3) := by decide +kernel
theorem dX12_ruled_90 : decode cX12_ruled 90 = .ok (.aload_n 0, 1) := by decide +kernel
theorem dX12_ruled_91 : decode cX12_ruled 91 = .ok (.iconst 1, 1) := by decide +kernel
theorem dX12_ruled_92 : decode cX12_ruled 92 = .ok (.invokevirtual 420, 3) := by decide +kernel
theorem dX12_ruled_95 : decode cX12_ruled 95 = .ok (.goto 7, 3) := by decide +kernel
theorem dX12_ruled_98 : decode cX12_ruled 98 = .ok (.aload_n 0, 1) := by decide +kernel
theorem dX12_ruled_99 : decode cX12_ruled 99 = .ok (.getfield 411, 3) := by decide +kernel
theorem dX12_ruled_102 : decode cX12_ruled 102 = .ok (.ireturn, 1) := by decide +kernel
theorem dX12_finest_0 : decode cX12_finest 0 = .ok (.bipush (-2), 2) := by decide +kernel
theorem dX12_finest_2 : decode cX12_finest 2 = .ok (.istore_n 1, 1) := by decide +kernel
theorem dX12_finest_3 : decode cX12_finest 3 = .ok (.iconst 0, 1) := by decide +kernel
theorem dX12_finest_4 : decode cX12_finest 4 = .ok (.istore_n 2, 1) := by decide +kernel
theorem dX12_finest_5 : decode cX12_finest 5 = .ok (.iconst 0, 1) := by decide +kernel
theorem dX12_finest_6 : decode cX12_finest 6 = .ok (.istore_n 3, 1) := by decide +kernel
theorem dX12_finest_7 : decode cX12_finest 7 = .ok (.iload_n 3, 1) := by decide +kernel
theorem dX12_finest_8 : decode cX12_finest 8 = .ok (.aload_n 0, 1) := by decide +kernel
theorem dX12_finest_9 : decode cX12_finest 9 = .ok (.getfield 360, 3) := by decide +kernel
theorem dX12_finest_12 : decode cX12_finest 12 = .ok (.if_icmp .ge 44, 3) := by decide +kernel
theorem dX12_finest_15 : decode cX12_finest 15 = .ok (.aload_n 0, 1) := by decide +kernel
theorem dX12_finest_16 : decode cX12_finest 16 = .ok (.iload_n 3, 1) := by decide +kernel
theorem dX12_finest_17 : decode cX12_finest 17 = .ok (.iconst 0, 1) := by decide +kernel
theorem dX12_finest_18 : decode cX12_finest 18 = .ok (.invokevirtual 554, 3) := by decide +kernel
theorem dX12_finest_21 : decode cX12_finest 21 = .ok (.aload_n 0, 1) := by decide +kernel
theorem dX12_finest_22 : decode cX12_finest 22 = .ok (.getfield 411, 3) := by decide +kernel
theorem dX12_finest_25 : decode cX12_finest 25 = .ok (.iconst (-1), 1) := by decide +kernel
theorem dX12_finest_26 : decode cX12_finest 26 = .ok (.if_icmp .ne 24, 3) := by decide +kernel
theorem dX12_finest_29 : decode cX12_finest 29 = .ok (.iload_n 1, 1) := by decide +kernel
theorem dX12_finest_30 : decode cX12_finest 30 = .ok (.bipush (-2), 2) := by decide +kernel
theorem dX12_finest_32 : decode cX12_finest 32 = .ok (.if_icmp .eq 11, 3) := by decide +kernel
theorem dX12_finest_35 : decode cX12_finest 35 = .ok (.aload_n 0, 1) := by decide +kernel
theorem dX12_finest_36 : decode cX12_finest 36 = .ok (.getfield 401, 3) := by decide +kernel
theorem dX12_finest_39 : decode cX12_finest 39 = .ok (.iload_n 2, 1) := by decide +kernel
theorem dX12_finest_40 : decode cX12_finest 40 = .ok (.if_icmp .le 10, 3) := by decide +kernel
theorem dX12_finest_43 : decode cX12_finest 43 = .ok (.iload_n 3, 1) := by decide +kernel
theorem dX12_finest_44 : decode cX12_finest 44 = .ok (.istore_n 1, 1) := by decide +kernel
theorem dX12_finest_45 : decode cX12_finest 45 = .ok (.aload_n 0, 1) := by decide +kernel
theorem dX12_finest_46 : decode cX12_finest 46 = .ok (.getfield 401, 3) := by decide +kernel
theorem dX12_finest_49 : decode cX12_finest 49 = .ok (.istore_n 2, 1) := by decide +kernel
theorem dX12_finest_50 : decode cX12_finest 50 = .ok (.iinc 3 1, 3) := by decide +kernel
theorem dX12_finest_53 : decode cX12_finest 53 = .ok (.goto (-46), 3) := by decide +kernel
theorem dX12_finest_56 : decode cX12_finest 56 = .ok (.iload_n 1, 1) := by decide +kernel
theorem dX12_finest_57 : decode cX12_finest 57 = .ok (.ireturn, 1) := by decide +kernel
theorem dX12_parts_0 : decode cX12_parts 0 = .ok (.aload_n 0, 1) := by decide +kernel
theorem dX12_parts_1 : decode cX12_parts 1 = .ok (.iload_n 1, 1) := by decide +kernel
theorem dX12_parts_2 : decode cX12_parts 2 = .ok (.invokevirtual 537, 3) := by decide +kernel
theorem dX12_parts_5 : decode cX12_parts 5 = .ok (.ifCond .eq 16, 3) := by decide +kernel
theorem dX12_parts_8 : decode cX12_parts 8 = .ok (.aload_n 0, 1) := by decide +kernel
theorem dX12_parts_9 : decode cX12_parts 9 = .ok (.iload_n 2, 1) := by decide +kernel
theorem dX12_parts_10 : decode cX12_parts 10 = .ok (.invokevirtual 537, 3) := by decide +kernel
theorem dX12_parts_13 : decode cX12_parts 13 = .ok (.ifCond .eq 8, 3) := by decide +kernel
theorem dX12_parts_16 : decode cX12_parts 16 = .ok (.iload_n 1, 1) := by decide +kernel
theorem dX12_parts_17 : decode cX12_parts 17 = .ok (.iload_n 2, 1) := by decide +kernel
theorem dX12_parts_18 : decode cX12_parts 18 = .ok (.if_icmp .ne 5, 3) := by decide +kernel
theorem dX12_parts_21 : decode cX12_parts 21 = .ok (.iconst (-1), 1) := by decide +kernel
theorem dX12_parts_22 : decode cX12_parts 22 = .ok (.ireturn, 1) := by decide +kernel
theorem dX12_parts_23 : decode cX12_parts 23 = .ok (.aload_n 0, 1) := by decide +kernel
theorem dX12_parts_24 : decode cX12_parts 24 = .ok (.iload_n 2, 1) := by decide +kernel
theorem dX12_parts_25 : decode cX12_parts 25 = .ok (.iconst 0, 1) := by decide +kernel
theorem dX12_parts_26 : decode cX12_parts 26 = .ok (.invokevirtual 554, 3) := by decide +kernel
theorem dX12_parts_29 : decode cX12_parts 29 = .ok (.iconst 0, 1) := by decide +kernel
theorem dX12_parts_30 : decode cX12_parts 30 = .ok (.istore_n 3, 1) := by decide +kernel
theorem dX12_parts_31 : decode cX12_parts 31 = .ok (.iload_n 3, 1) := by decide +kernel
theorem dX12_parts_32 : decode cX12_parts 32 = .ok (.bipush 8, 2) := by decide +kernel
theorem dX12_parts_34 : decode cX12_parts 34 = .ok (.if_icmp .ge 21, 3) := by decide +kernel
theorem dX12_parts_37 : decode cX12_parts 37 = .ok (.aload_n 0, 1) := by decide +kernel
theorem dX12_parts_38 : decode cX12_parts 38 = .ok (.getfield 127, 3) := by decide +kernel
theorem dX12_parts_41 : decode cX12_parts 41 = .ok (.iload_n 3, 1) := by decide +kernel
theorem dX12_parts_42 : decode cX12_parts 42 = .ok (.aload_n 0, 1) := by decide +kernel
theorem dX12_parts_43 : decode cX12_parts 43 = .ok (.getfield 124, 3) := by decide +kernel
theorem dX12_parts_46 : decode cX12_parts 46 = .ok (.iload_n 3, 1) := by decide +kernel
theorem dX12_parts_47 : decode cX12_parts 47 = .ok (.iaload, 1) := by decide +kernel
theorem dX12_parts_48 : decode cX12_parts 48 = .ok (.iastore, 1) := by decide +kernel
theorem dX12_parts_49 : decode cX12_parts 49 = .ok (.iinc 3 1, 3) := by decide +kernel
theorem dX12_parts_52 : decode cX12_parts 52 = .ok (.goto (-21), 3) := by decide +kernel
theorem dX12_parts_55 : decode cX12_parts 55 = .ok (.aload_n 0, 1) := by decide +kernel
theorem dX12_parts_56 : decode cX12_parts 56 = .ok (.iload_n 1, 1) := by decide +kernel
theorem dX12_parts_57 : decode cX12_parts 57 = .ok (.iconst 0, 1) := by decide +kernel
theorem dX12_parts_58 : decode cX12_parts 58 = .ok (.invokevirtual 554, 3) := by decide +kernel
theorem dX12_parts_61 : decode cX12_parts 61 = .ok (.iconst 0, 1) := by decide +kernel
theorem dX12_parts_62 : decode cX12_parts 62 = .ok (.istore_n 3, 1) := by decide +kernel
theorem dX12_parts_63 : decode cX12_parts 63 = .ok (.iconst 0, 1) := by decide +kernel
theorem dX12_parts_64 : decode cX12_parts 64 = .ok (.istore 4, 2) := by decide +kernel
theorem dX12_parts_66 : decode cX12_parts 66 = .ok (.iload 4, 2) := by decide +kernel
theorem dX12_parts_68 : decode cX12_parts 68 = .ok (.bipush 8, 2) := by decide +kernel
theorem dX12_parts_70 : decode cX12_parts 70 = .ok (.if_icmp .ge 34, 3) := by decide +kernel
theorem dX12_parts_73 : decode cX12_parts 73 = .ok (.iload_n 3, 1) := by decide +kernel
theorem dX12_parts_74 : decode cX12_parts 74 = .ok (.aload_n 0, 1) := by decide +kernel
theorem dX12_parts_75 : decode cX12_parts 75 = .ok (.getfield 127, 3) := by decide +kernel
theorem dX12_parts_78 : decode cX12_parts 78 = .ok (.iload 4, 2) := by decide +kernel
theorem dX12_parts_80 : decode cX12_parts 80 = .ok (.iaload, 1) := by decide +kernel
theorem dX12_parts_81 : decode cX12_parts 81 = .ok (.aload_n 0, 1) := by decide +kernel
theorem dX12_parts_82 : decode cX12_parts 82 = .ok (.getfield 124, 3) := by decide +kernel
theorem dX12_parts_85 : decode cX12_parts 85 = .ok (.iload 4, 2) := by decide +kernel
theorem dX12_parts_87 : decode cX12_parts 87 = .ok (.iaload, 1) := by decide +kernel
theorem dX12_parts_88 : decode cX12_parts 88 = .ok (.if_icmp .eq 7, 3) := by decide +kernel
theorem dX12_parts_91 : decode cX12_parts 91 = .ok (.iconst 1, 1) := by decide +kernel
theorem dX12_parts_92 : decode cX12_parts 92 = .ok (.goto 4, 3) := by decide +kernel
theorem dX12_parts_95 : decode cX12_parts 95 = .ok (.iconst 0, 1) := by decide +kernel
theorem dX12_parts_96 : decode cX12_parts 96 = .ok (.iadd, 1) := by decide +kernel
theorem dX12_parts_97 : decode cX12_parts 97 = .ok (.istore_n 3, 1) := by decide +kernel
theorem dX12_parts_98 : decode cX12_parts 98 = .ok (.iinc 4 1, 3) := by decide +kernel
theorem dX12_parts_101 : decode cX12_parts 101 = .ok (.goto (-35), 3) := by decide +kernel
theorem dX12_parts_104 : decode cX12_parts 104 = .ok (.iload_n 3, 1) := by decide +kernel
theorem dX12_parts_105 : decode cX12_parts 105 = .ok (.ireturn, 1) := by decide +kernel
theorem dX12_goes_0 : decode cX12_goes 0 = .ok (.aload_n 0, 1) := by decide +kernel
theorem dX12_goes_1 : decode cX12_goes 1 = .ok (.iload_n 1, 1) := by decide +kernel
theorem dX12_goes_2 : decode cX12_goes 2 = .ok (.invokevirtual 537, 3) := by decide +kernel
theorem dX12_goes_5 : decode cX12_goes 5 = .ok (.ifCond .eq 19, 3) := by decide +kernel
theorem dX12_goes_8 : decode cX12_goes 8 = .ok (.iload_n 2, 1) := by decide +kernel
theorem dX12_goes_9 : decode cX12_goes 9 = .ok (.ifCond .lt 15, 3) := by decide +kernel
theorem dX12_goes_12 : decode cX12_goes 12 = .ok (.iload_n 3, 1) := by decide +kernel
theorem dX12_goes_13 : decode cX12_goes 13 = .ok (.i2l, 1) := by decide +kernel
theorem dX12_goes_14 : decode cX12_goes 14 = .ok (.lconst 1, 1) := by decide +kernel
theorem dX12_goes_15 : decode cX12_goes 15 = .ok (.ldc2_w 457, 3) := by decide +kernel
theorem dX12_goes_18 : decode cX12_goes 18 = .ok (.invokestatic 201, 3) := by decide +kernel
theorem dX12_goes_21 : decode cX12_goes 21 = .ok (.ifCond .ne 5, 3) := by decide +kernel
theorem dX12_goes_24 : decode cX12_goes 24 = .ok (.iconst (-1), 1) := by decide +kernel
theorem dX12_goes_25 : decode cX12_goes 25 = .ok (.ireturn, 1) := by decide +kernel
theorem dX12_goes_26 : decode cX12_goes 26 = .ok (.aload_n 0, 1) := by decide +kernel
theorem dX12_goes_27 : decode cX12_goes 27 = .ok (.iload_n 2, 1) := by decide +kernel
theorem dX12_goes_28 : decode cX12_goes 28 = .ok (.i2l, 1) := by decide +kernel
theorem dX12_goes_29 : decode cX12_goes 29 = .ok (.putfield 423, 3) := by decide +kernel
theorem dX12_goes_32 : decode cX12_goes 32 = .ok (.iconst 0, 1) := by decide +kernel
theorem dX12_goes_33 : decode cX12_goes 33 = .ok (.istore 4, 2) := by decide +kernel
theorem dX12_goes_35 : decode cX12_goes 35 = .ok (.iconst 0, 1) := by decide +kernel
theorem dX12_goes_36 : decode cX12_goes 36 = .ok (.istore 5, 2) := by decide +kernel
theorem dX12_goes_38 : decode cX12_goes 38 = .ok (.iload 5, 2) := by decide +kernel
theorem dX12_goes_40 : decode cX12_goes 40 = .ok (.iload_n 3, 1) := by decide +kernel
theorem dX12_goes_41 : decode cX12_goes 41 = .ok (.if_icmp .ge 45, 3) := by decide +kernel
theorem dX12_goes_44 : decode cX12_goes 44 = .ok (.aload_n 0, 1) := by decide +kernel
theorem dX12_goes_45 : decode cX12_goes 45 = .ok (.iload_n 1, 1) := by decide +kernel
theorem dX12_goes_46 : decode cX12_goes 46 = .ok (.iconst 1, 1) := by decide +kernel
theorem dX12_goes_47 : decode cX12_goes 47 = .ok (.invokevirtual 554, 3) := by decide +kernel
theorem dX12_goes_50 : decode cX12_goes 50 = .ok (.iload 4, 2) := by decide +kernel
theorem dX12_goes_52 : decode cX12_goes 52 = .ok (.aload_n 0, 1) := by decide +kernel
theorem dX12_goes_53 : decode cX12_goes 53 = .ok (.getfield 411, 3) := by decide +kernel
theorem dX12_goes_56 : decode cX12_goes 56 = .ok (.iconst (-1), 1) := by decide +kernel
theorem dX12_goes_57 : decode cX12_goes 57 = .ok (.if_icmp .ne 19, 3) := by decide +kernel
theorem dX12_goes_60 : decode cX12_goes 60 = .ok (.aload_n 0, 1) := by decide +kernel
theorem dX12_goes_61 : decode cX12_goes 61 = .ok (.iconst 1, 1) := by decide +kernel
theorem dX12_goes_62 : decode cX12_goes 62 = .ok (.invokevirtual 420, 3) := by decide +kernel
theorem dX12_goes_65 : decode cX12_goes 65 = .ok (.aload_n 0, 1) := by decide +kernel
theorem dX12_goes_66 : decode cX12_goes 66 = .ok (.invokevirtual 354, 3) := by decide +kernel
theorem dX12_goes_69 : decode cX12_goes 69 = .ok (.if_icmp .ne 7, 3) := by decide +kernel
theorem dX12_goes_72 : decode cX12_goes 72 = .ok (.iconst 1, 1) := by decide +kernel
theorem dX12_goes_73 : decode cX12_goes 73 = .ok (.goto 4, 3) := by decide +kernel
theorem dX12_goes_76 : decode cX12_goes 76 = .ok (.iconst 0, 1) := by decide +kernel
theorem dX12_goes_77 : decode cX12_goes 77 = .ok (.iadd, 1) := by decide +kernel
theorem dX12_goes_78 : decode cX12_goes 78 = .ok (.istore 4, 2) := by decide +kernel
theorem dX12_goes_80 : decode cX12_goes 80 = .ok (.iinc 5 1, 3) := by decide +kernel
theorem dX12_goes_83 : decode cX12_goes 83 = .ok (.goto (-45), 3) := by decide +kernel
theorem dX12_goes_86 : decode cX12_goes 86 = .ok (.iload 4, 2) := by decide +kernel
theorem dX12_goes_88 : decode cX12_goes 88 = .ok (.ireturn, 1) := by decide +kernel
theorem dX12_most_0 : decode cX12_most 0 = .ok (.iload_n 1, 1) := by decide +kernel
theorem dX12_most_1 : decode cX12_most 1 = .ok (.invokestatic 382, 3) := by decide +kernel
theorem dX12_most_4 : decode cX12_most 4 = .ok (.ifCond .eq 20, 3) := by decide +kernel
theorem dX12_most_7 : decode cX12_most 7 = .ok (.iload_n 2, 1) := by decide +kernel
theorem dX12_most_8 : decode cX12_most 8 = .ok (.i2l, 1) := by decide +kernel
theorem dX12_most_9 : decode cX12_most 9 = .ok (.lconst 0, 1) := by decide +kernel
theorem dX12_most_10 : decode cX12_most 10 = .ok (.aload_n 0, 1) := by decide +kernel
theorem dX12_most_11 : decode cX12_most 11 = .ok (.invokevirtual 354, 3) := by decide +kernel
theorem dX12_most_14 : decode cX12_most 14 = .ok (.invokestatic 357, 3) := by decide +kernel
theorem dX12_most_17 : decode cX12_most 17 = .ok (.i2l, 1) := by decide +kernel
theorem dX12_most_18 : decode cX12_most 18 = .ok (.invokestatic 201, 3) := by decide +kernel
theorem dX12_most_21 : decode cX12_most 21 = .ok (.ifCond .ne 5, 3) := by decide +kernel
theorem dX12_most_24 : decode cX12_most 24 = .ok (.iconst (-1), 1) := by decide +kernel
theorem dX12_most_25 : decode cX12_most 25 = .ok (.ireturn, 1) := by decide +kernel
theorem dX12_most_26 : decode cX12_most 26 = .ok (.iconst (-1), 1) := by decide +kernel
theorem dX12_most_27 : decode cX12_most 27 = .ok (.istore_n 3, 1) := by decide +kernel
theorem dX12_most_28 : decode cX12_most 28 = .ok (.iconst 0, 1) := by decide +kernel
theorem dX12_most_29 : decode cX12_most 29 = .ok (.istore 4, 2) := by decide +kernel
theorem dX12_most_31 : decode cX12_most 31 = .ok (.iconst 0, 1) := by decide +kernel
theorem dX12_most_32 : decode cX12_most 32 = .ok (.istore 5, 2) := by decide +kernel
theorem dX12_most_34 : decode cX12_most 34 = .ok (.iload 5, 2) := by decide +kernel
theorem dX12_most_36 : decode cX12_most 36 = .ok (.sipush 256, 3) := by decide +kernel
theorem dX12_most_39 : decode cX12_most 39 = .ok (.if_icmp .ge 68, 3) := by decide +kernel
theorem dX12_most_42 : decode cX12_most 42 = .ok (.iload 5, 2) := by decide +kernel
theorem dX12_most_44 : decode cX12_most 44 = .ok (.aload_n 0, 1) := by decide +kernel
theorem dX12_most_45 : decode cX12_most 45 = .ok (.invokevirtual 354, 3) := by decide +kernel
theorem dX12_most_48 : decode cX12_most 48 = .ok (.iconst (-1), 1) := by decide +kernel
theorem dX12_most_49 : decode cX12_most 49 = .ok (.ixor, 1) := by decide +kernel
theorem dX12_most_50 : decode cX12_most 50 = .ok (.iand, 1) := by decide +kernel
theorem dX12_most_51 : decode cX12_most 51 = .ok (.ifCond .ne 50, 3) := by decide +kernel
theorem dX12_most_54 : decode cX12_most 54 = .ok (.iload 5, 2) := by decide +kernel
theorem dX12_most_56 : decode cX12_most 56 = .ok (.invokestatic 357, 3) := by decide +kernel
theorem dX12_most_59 : decode cX12_most 59 = .ok (.iload_n 2, 1) := by decide +kernel
theorem dX12_most_60 : decode cX12_most 60 = .ok (.if_icmp .ne 41, 3) := by decide +kernel
theorem dX12_most_63 : decode cX12_most 63 = .ok (.aload_n 0, 1) := by decide +kernel
theorem dX12_most_64 : decode cX12_most 64 = .ok (.iconst 1, 1) := by decide +kernel
theorem dX12_most_65 : decode cX12_most 65 = .ok (.iload 5, 2) := by decide +kernel
theorem dX12_most_67 : decode cX12_most 67 = .ok (.aload_n 0, 1) := by decide +kernel
theorem dX12_most_68 : decode cX12_most 68 = .ok (.invokevirtual 354, 3) := by decide +kernel
theorem dX12_most_71 : decode cX12_most 71 = .ok (.iload 5, 2) := by decide +kernel
theorem dX12_most_73 : decode cX12_most 73 = .ok (.iconst (-1), 1) := by decide +kernel
theorem dX12_most_74 : decode cX12_most 74 = .ok (.ixor, 1) := by decide +kernel
theorem dX12_most_75 : decode cX12_most 75 = .ok (.iand, 1) := by decide +kernel
theorem dX12_most_76 : decode cX12_most 76 = .ok (.iload_n 1, 1) := by decide +kernel
theorem dX12_most_77 : decode cX12_most 77 = .ok (.invokevirtual 395, 3) := by decide +kernel
theorem dX12_most_80 : decode cX12_most 80 = .ok (.istore 6, 2) := by decide +kernel
theorem dX12_most_82 : decode cX12_most 82 = .ok (.iload_n 3, 1) := by decide +kernel
theorem dX12_most_83 : decode cX12_most 83 = .ok (.iconst (-1), 1) := by decide +kernel
theorem dX12_most_84 : decode cX12_most 84 = .ok (.if_icmp .eq 10, 3) := by decide +kernel
theorem dX12_most_87 : decode cX12_most 87 = .ok (.iload 6, 2) := by decide +kernel
theorem dX12_most_89 : decode cX12_most 89 = .ok (.iload 4, 2) := by decide +kernel
theorem dX12_most_91 : decode cX12_most 91 = .ok (.if_icmp .le 10, 3) := by decide +kernel
theorem dX12_most_94 : decode cX12_most 94 = .ok (.iload 5, 2) := by decide +kernel
theorem dX12_most_96 : decode cX12_most 96 = .ok (.istore_n 3, 1) := by decide +kernel
theorem dX12_most_97 : decode cX12_most 97 = .ok (.iload 6, 2) := by decide +kernel
theorem dX12_most_99 : decode cX12_most 99 = .ok (.istore 4, 2) := by decide +kernel
theorem dX12_most_101 : decode cX12_most 101 = .ok (.iinc 5 1, 3) := by decide +kernel
theorem dX12_most_104 : decode cX12_most 104 = .ok (.goto (-70), 3) := by decide +kernel
theorem dX12_most_107 : decode cX12_most 107 = .ok (.iload_n 3, 1) := by decide +kernel
theorem dX12_most_108 : decode cX12_most 108 = .ok (.ireturn, 1) := by decide +kernel
theorem dX12_needed_0 : decode cX12_needed 0 = .ok (.aload_n 0, 1) := by decide +kernel
theorem dX12_needed_1 : decode cX12_needed 1 = .ok (.iload_n 1, 1) := by decide +kernel
theorem dX12_needed_2 : decode cX12_needed 2 = .ok (.invokevirtual 392, 3) := by decide +kernel
theorem dX12_needed_5 : decode cX12_needed 5 = .ok (.ifCond .eq 10, 3) := by decide +kernel
theorem dX12_needed_8 : decode cX12_needed 8 = .ok (.iload_n 2, 1) := by decide +kernel
theorem dX12_needed_9 : decode cX12_needed 9 = .ok (.invokestatic 382, 3) := by decide +kernel
theorem dX12_needed_12 : decode cX12_needed 12 = .ok (.ifCond .ne 5, 3) := by decide +kernel
theorem dX12_needed_15 : decode cX12_needed 15 = .ok (.iconst (-1), 1) := by decide +kernel
theorem dX12_needed_16 : decode cX12_needed 16 = .ok (.ireturn, 1) := by decide +kernel
theorem dX12_needed_17 : decode cX12_needed 17 = .ok (.iconst 0, 1) := by decide +kernel
theorem dX12_needed_18 : decode cX12_needed 18 = .ok (.istore_n 3, 1) := by decide +kernel
theorem dX12_needed_19 : decode cX12_needed 19 = .ok (.iconst 0, 1) := by decide +kernel
theorem dX12_needed_20 : decode cX12_needed 20 = .ok (.istore 4, 2) := by decide +kernel
theorem dX12_needed_22 : decode cX12_needed 22 = .ok (.iload 4, 2) := by decide +kernel
theorem dX12_needed_24 : decode cX12_needed 24 = .ok (.bipush 8, 2) := by decide +kernel
theorem dX12_needed_26 : decode cX12_needed 26 = .ok (.if_icmp .ge 64, 3) := by decide +kernel
theorem dX12_needed_29 : decode cX12_needed 29 = .ok (.aload_n 0, 1) := by decide +kernel
theorem dX12_needed_30 : decode cX12_needed 30 = .ok (.getfield 44, 3) := by decide +kernel
theorem dX12_needed_33 : decode cX12_needed 33 = .ok (.iload 4, 2) := by decide +kernel
theorem dX12_needed_35 : decode cX12_needed 35 = .ok (.iaload, 1) := by decide +kernel
theorem dX12_needed_36 : decode cX12_needed 36 = .ok (.iconst 1, 1) := by decide +kernel
theorem dX12_needed_37 : decode cX12_needed 37 = .ok (.if_icmp .ne 47, 3) := by decide +kernel
theorem dX12_needed_40 : decode cX12_needed 40 = .ok (.iload_n 1, 1) := by decide +kernel
theorem dX12_needed_41 : decode cX12_needed 41 = .ok (.iload 4, 2) := by decide +kernel
theorem dX12_needed_43 : decode cX12_needed 43 = .ok (.ishr, 1) := by decide +kernel
theorem dX12_needed_44 : decode cX12_needed 44 = .ok (.iconst 1, 1) := by decide +kernel
theorem dX12_needed_45 : decode cX12_needed 45 = .ok (.iand, 1) := by decide +kernel
theorem dX12_needed_46 : decode cX12_needed 46 = .ok (.ifCond .ne 38, 3) := by decide +kernel
theorem dX12_needed_49 : decode cX12_needed 49 = .ok (.aload_n 0, 1) := by decide +kernel
theorem dX12_needed_50 : decode cX12_needed 50 = .ok (.getfield 53, 3) := by decide +kernel
theorem dX12_needed_53 : decode cX12_needed 53 = .ok (.iload 4, 2) := by decide +kernel
theorem dX12_needed_55 : decode cX12_needed 55 = .ok (.iaload, 1) := by decide +kernel
theorem dX12_needed_56 : decode cX12_needed 56 = .ok (.iconst (-1), 1) := by decide +kernel
theorem dX12_needed_57 : decode cX12_needed 57 = .ok (.if_icmp .eq 17, 3) := by decide +kernel
theorem dX12_needed_60 : decode cX12_needed 60 = .ok (.aload_n 0, 1) := by decide +kernel
theorem dX12_needed_61 : decode cX12_needed 61 = .ok (.getfield 53, 3) := by decide +kernel
theorem dX12_needed_64 : decode cX12_needed 64 = .ok (.iload 4, 2) := by decide +kernel
theorem dX12_needed_66 : decode cX12_needed 66 = .ok (.iaload, 1) := by decide +kernel
theorem dX12_needed_67 : decode cX12_needed 67 = .ok (.iload_n 2, 1) := by decide +kernel
theorem dX12_needed_68 : decode cX12_needed 68 = .ok (.if_icmp .gt 6, 3) := by decide +kernel
theorem dX12_needed_71 : decode cX12_needed 71 = .ok (.bipush (-2), 2) := by decide +kernel
theorem dX12_needed_73 : decode cX12_needed 73 = .ok (.ireturn, 1) := by decide +kernel
theorem dX12_needed_74 : decode cX12_needed 74 = .ok (.iload_n 3, 1) := by decide +kernel
theorem dX12_needed_75 : decode cX12_needed 75 = .ok (.aload_n 0, 1) := by decide +kernel
theorem dX12_needed_76 : decode cX12_needed 76 = .ok (.iload 4, 2) := by decide +kernel
theorem dX12_needed_78 : decode cX12_needed 78 = .ok (.iload_n 2, 1) := by decide +kernel
theorem dX12_needed_79 : decode cX12_needed 79 = .ok (.invokevirtual 385, 3) := by decide +kernel
theorem dX12_needed_82 : decode cX12_needed 82 = .ok (.iadd, 1) := by decide +kernel
theorem dX12_needed_83 : decode cX12_needed 83 = .ok (.istore_n 3, 1) := by decide +kernel
theorem dX12_needed_84 : decode cX12_needed 84 = .ok (.iinc 4 1, 3) := by decide +kernel
theorem dX12_needed_87 : decode cX12_needed 87 = .ok (.goto (-65), 3) := by decide +kernel
theorem dX12_needed_90 : decode cX12_needed 90 = .ok (.iload_n 3, 1) := by decide +kernel
theorem dX12_needed_91 : decode cX12_needed 91 = .ok (.ireturn, 1) := by decide +kernel
theorem dX12_pays_0 : decode cX12_pays 0 = .ok (.aload_n 0, 1) := by decide +kernel
theorem dX12_pays_1 : decode cX12_pays 1 = .ok (.iload_n 1, 1) := by decide +kernel
theorem dX12_pays_2 : decode cX12_pays 2 = .ok (.invokevirtual 375, 3) := by decide +kernel
theorem dX12_pays_5 : decode cX12_pays 5 = .ok (.ifCond .eq 26, 3) := by decide +kernel
theorem dX12_pays_8 : decode cX12_pays 8 = .ok (.aload_n 0, 1) := by decide +kernel
theorem dX12_pays_9 : decode cX12_pays 9 = .ok (.iload_n 2, 1) := by decide +kernel
theorem dX12_pays_10 : decode cX12_pays 10 = .ok (.invokevirtual 392, 3) := by decide +kernel
theorem dX12_pays_13 : decode cX12_pays 13 = .ok (.ifCond .eq 18, 3) := by decide +kernel
theorem dX12_pays_16 : decode cX12_pays 16 = .ok (.iload_n 2, 1) := by decide +kernel
theorem dX12_pays_17 : decode cX12_pays 17 = .ok (.iload_n 1, 1) := by decide +kernel
theorem dX12_pays_18 : decode cX12_pays 18 = .ok (.ishr, 1) := by decide +kernel
theorem dX12_pays_19 : decode cX12_pays 19 = .ok (.iconst 1, 1) := by decide +kernel
theorem dX12_pays_20 : decode cX12_pays 20 = .ok (.iand, 1) := by decide +kernel
theorem dX12_pays_21 : decode cX12_pays 21 = .ok (.ifCond .eq 10, 3) := by decide +kernel
theorem dX12_pays_24 : decode cX12_pays 24 = .ok (.iload_n 3, 1) := by decide +kernel
theorem dX12_pays_25 : decode cX12_pays 25 = .ok (.invokestatic 382, 3) := by decide +kernel
theorem dX12_pays_28 : decode cX12_pays 28 = .ok (.ifCond .ne 5, 3) := by decide +kernel
theorem dX12_pays_31 : decode cX12_pays 31 = .ok (.iconst (-1), 1) := by decide +kernel
theorem dX12_pays_32 : decode cX12_pays 32 = .ok (.ireturn, 1) := by decide +kernel
theorem dX12_pays_33 : decode cX12_pays 33 = .ok (.iload_n 2, 1) := by decide +kernel
theorem dX12_pays_34 : decode cX12_pays 34 = .ok (.iconst 1, 1) := by decide +kernel
theorem dX12_pays_35 : decode cX12_pays 35 = .ok (.iload_n 1, 1) := by decide +kernel
theorem dX12_pays_36 : decode cX12_pays 36 = .ok (.ishl, 1) := by decide +kernel
theorem dX12_pays_37 : decode cX12_pays 37 = .ok (.iconst (-1), 1) := by decide +kernel
theorem dX12_pays_38 : decode cX12_pays 38 = .ok (.ixor, 1) := by decide +kernel
theorem dX12_pays_39 : decode cX12_pays 39 = .ok (.iand, 1) := by decide +kernel
theorem dX12_pays_40 : decode cX12_pays 40 = .ok (.istore 4, 2) := by decide +kernel
theorem dX12_pays_42 : decode cX12_pays 42 = .ok (.iconst 0, 1) := by decide +kernel
theorem dX12_pays_43 : decode cX12_pays 43 = .ok (.istore 5, 2) := by decide +kernel
theorem dX12_pays_45 : decode cX12_pays 45 = .ok (.iconst 0, 1) := by decide +kernel
theorem dX12_pays_46 : decode cX12_pays 46 = .ok (.istore 6, 2) := by decide +kernel
theorem dX12_pays_48 : decode cX12_pays 48 = .ok (.iload 6, 2) := by decide +kernel
theorem dX12_pays_50 : decode cX12_pays 50 = .ok (.sipush 200, 3) := by decide +kernel
theorem dX12_pays_53 : decode cX12_pays 53 = .ok (.if_icmp .ge 69, 3) := by decide +kernel
theorem dX12_pays_56 : decode cX12_pays 56 = .ok (.iload 5, 2) := by decide +kernel
theorem dX12_pays_58 : decode cX12_pays 58 = .ok (.aload_n 0, 1) := by decide +kernel
theorem dX12_pays_59 : decode cX12_pays 59 = .ok (.iconst 1, 1) := by decide +kernel
theorem dX12_pays_60 : decode cX12_pays 60 = .ok (.iload_n 2, 1) := by decide +kernel
theorem dX12_pays_61 : decode cX12_pays 61 = .ok (.aload_n 0, 1) := by decide +kernel
theorem dX12_pays_62 : decode cX12_pays 62 = .ok (.invokevirtual 354, 3) := by decide +kernel
theorem dX12_pays_65 : decode cX12_pays 65 = .ok (.iload_n 2, 1) := by decide +kernel
theorem dX12_pays_66 : decode cX12_pays 66 = .ok (.iconst (-1), 1) := by decide +kernel
theorem dX12_pays_67 : decode cX12_pays 67 = .ok (.ixor, 1) := by decide +kernel
theorem dX12_pays_68 : decode cX12_pays 68 = .ok (.iand, 1) := by decide +kernel
theorem dX12_pays_69 : decode cX12_pays 69 = .ok (.iload_n 3, 1) := by decide +kernel
theorem dX12_pays_70 : decode cX12_pays 70 = .ok (.iload 6, 2) := by decide +kernel
theorem dX12_pays_72 : decode cX12_pays 72 = .ok (.iadd, 1) := by decide +kernel
theorem dX12_pays_73 : decode cX12_pays 73 = .ok (.invokevirtual 395, 3) := by decide +kernel
theorem dX12_pays_76 : decode cX12_pays 76 = .ok (.aload_n 0, 1) := by decide +kernel
theorem dX12_pays_77 : decode cX12_pays 77 = .ok (.iconst 1, 1) := by decide +kernel
theorem dX12_pays_78 : decode cX12_pays 78 = .ok (.iload 4, 2) := by decide +kernel
theorem dX12_pays_80 : decode cX12_pays 80 = .ok (.aload_n 0, 1) := by decide +kernel
theorem dX12_pays_81 : decode cX12_pays 81 = .ok (.invokevirtual 354, 3) := by decide +kernel
theorem dX12_pays_84 : decode cX12_pays 84 = .ok (.iload 4, 2) := by decide +kernel
theorem dX12_pays_86 : decode cX12_pays 86 = .ok (.iconst (-1), 1) := by decide +kernel
theorem dX12_pays_87 : decode cX12_pays 87 = .ok (.ixor, 1) := by decide +kernel
theorem dX12_pays_88 : decode cX12_pays 88 = .ok (.iand, 1) := by decide +kernel
theorem dX12_pays_89 : decode cX12_pays 89 = .ok (.iload_n 3, 1) := by decide +kernel
theorem dX12_pays_90 : decode cX12_pays 90 = .ok (.iload 6, 2) := by decide +kernel
theorem dX12_pays_92 : decode cX12_pays 92 = .ok (.iadd, 1) := by decide +kernel
theorem dX12_pays_93 : decode cX12_pays 93 = .ok (.invokevirtual 395, 3) := by decide +kernel
theorem dX12_pays_96 : decode cX12_pays 96 = .ok (.isub, 1) := by decide +kernel
theorem dX12_pays_97 : decode cX12_pays 97 = .ok (.iadd, 1) := by decide +kernel
theorem dX12_pays_98 : decode cX12_pays 98 = .ok (.istore 5, 2) := by decide +kernel
theorem dX12_pays_100 : decode cX12_pays 100 = .ok (.iload 5, 2) := by decide +kernel
theorem dX12_pays_102 : decode cX12_pays 102 = .ok (.aload_n 0, 1) := by decide +kernel
theorem dX12_pays_103 : decode cX12_pays 103 = .ok (.iload_n 1, 1) := by decide +kernel
theorem dX12_pays_104 : decode cX12_pays 104 = .ok (.iload_n 3, 1) := by decide +kernel
theorem dX12_pays_105 : decode cX12_pays 105 = .ok (.invokevirtual 385, 3) := by decide +kernel
theorem dX12_pays_108 : decode cX12_pays 108 = .ok (.if_icmp .lt 8, 3) := by decide +kernel
theorem dX12_pays_111 : decode cX12_pays 111 = .ok (.iload 6, 2) := by decide +kernel
theorem dX12_pays_113 : decode cX12_pays 113 = .ok (.iconst 1, 1) := by decide +kernel
theorem dX12_pays_114 : decode cX12_pays 114 = .ok (.iadd, 1) := by decide +kernel
theorem dX12_pays_115 : decode cX12_pays 115 = .ok (.ireturn, 1) := by decide +kernel
theorem dX12_pays_116 : decode cX12_pays 116 = .ok (.iinc 6 1, 3) := by decide +kernel
theorem dX12_pays_119 : decode cX12_pays 119 = .ok (.goto (-71), 3) := by decide +kernel
theorem dX12_pays_122 : decode cX12_pays 122 = .ok (.bipush (-2), 2) := by decide +kernel
theorem dX12_pays_124 : decode cX12_pays 124 = .ok (.ireturn, 1) := by decide +kernel
theorem dX12_carry_0 : decode cX12_carry 0 = .ok (.iconst 0, 1) := by decide +kernel
theorem dX12_carry_1 : decode cX12_carry 1 = .ok (.istore_n 3, 1) := by decide +kernel
theorem dX12_carry_2 : decode cX12_carry 2 = .ok (.iload_n 3, 1) := by decide +kernel
theorem dX12_carry_3 : decode cX12_carry 3 = .ok (.iload_n 2, 1) := by decide +kernel
theorem dX12_carry_4 : decode cX12_carry 4 = .ok (.if_icmp .ge 53, 3) := by decide +kernel
theorem dX12_carry_7 : decode cX12_carry 7 = .ok (.aload_n 0, 1) := by decide +kernel
theorem dX12_carry_8 : decode cX12_carry 8 = .ok (.getfield 557, 3) := by decide +kernel
theorem dX12_carry_11 : decode cX12_carry 11 = .ok (.ifCond .eq 18, 3) := by decide +kernel
theorem dX12_carry_14 : decode cX12_carry 14 = .ok (.aload_n 1, 1) := by decide +kernel
theorem dX12_carry_15 : decode cX12_carry 15 = .ok (.iload_n 3, 1) := by decide +kernel
theorem dX12_carry_16 : decode cX12_carry 16 = .ok (.aload_n 0, 1) := by decide +kernel
theorem dX12_carry_17 : decode cX12_carry 17 = .ok (.getfield 130, 3) := by decide +kernel
theorem dX12_carry_20 : decode cX12_carry 20 = .ok (.aload_n 0, 1) := by decide +kernel
theorem dX12_carry_21 : decode cX12_carry 21 = .ok (.getfield 560, 3) := by decide +kernel
theorem dX12_carry_24 : decode cX12_carry 24 = .ok (.iaload, 1) := by decide +kernel
theorem dX12_carry_25 : decode cX12_carry 25 = .ok (.iastore, 1) := by decide +kernel
theorem dX12_carry_26 : decode cX12_carry 26 = .ok (.goto 15, 3) := by decide +kernel
theorem dX12_carry_29 : decode cX12_carry 29 = .ok (.aload_n 0, 1) := by decide +kernel
theorem dX12_carry_30 : decode cX12_carry 30 = .ok (.getfield 130, 3) := by decide +kernel
theorem dX12_carry_33 : decode cX12_carry 33 = .ok (.aload_n 0, 1) := by decide +kernel
theorem dX12_carry_34 : decode cX12_carry 34 = .ok (.getfield 560, 3) := by decide +kernel
theorem dX12_carry_37 : decode cX12_carry 37 = .ok (.aload_n 1, 1) := by decide +kernel
theorem dX12_carry_38 : decode cX12_carry 38 = .ok (.iload_n 3, 1) := by decide +kernel
theorem dX12_carry_39 : decode cX12_carry 39 = .ok (.iaload, 1) := by decide +kernel
theorem dX12_carry_40 : decode cX12_carry 40 = .ok (.iastore, 1) := by decide +kernel
theorem dX12_carry_41 : decode cX12_carry 41 = .ok (.aload_n 0, 1) := by decide +kernel
theorem dX12_carry_42 : decode cX12_carry 42 = .ok (.dup, 1) := by decide +kernel
theorem dX12_carry_43 : decode cX12_carry 43 = .ok (.getfield 560, 3) := by decide +kernel
theorem dX12_carry_46 : decode cX12_carry 46 = .ok (.iconst 1, 1) := by decide +kernel
theorem dX12_carry_47 : decode cX12_carry 47 = .ok (.iadd, 1) := by decide +kernel
theorem dX12_carry_48 : decode cX12_carry 48 = .ok (.putfield 560, 3) := by decide +kernel
theorem dX12_carry_51 : decode cX12_carry 51 = .ok (.iinc 3 1, 3) := by decide +kernel
theorem dX12_carry_54 : decode cX12_carry 54 = .ok (.goto (-52), 3) := by decide +kernel
theorem dX12_carry_57 : decode cX12_carry 57 = .ok (.return_, 1) := by decide +kernel
theorem dX12_carries_0 : decode cX12_carries 0 = .ok (.aload_n 0, 1) := by decide +kernel
theorem dX12_carries_1 : decode cX12_carries 1 = .ok (.sipush 980, 3) := by decide +kernel
theorem dX12_carries_4 : decode cX12_carries 4 = .ok (.iload_n 1, 1) := by decide +kernel
theorem dX12_carries_5 : decode cX12_carries 5 = .ok (.imul, 1) := by decide +kernel
theorem dX12_carries_6 : decode cX12_carries 6 = .ok (.putfield 560, 3) := by decide +kernel
theorem dX12_carries_9 : decode cX12_carries 9 = .ok (.aload_n 0, 1) := by decide +kernel
theorem dX12_carries_10 : decode cX12_carries 10 = .ok (.getfield 136, 3) := by decide +kernel
theorem dX12_carries_13 : decode cX12_carries 13 = .ok (.iconst 0, 1) := by decide +kernel
theorem dX12_carries_14 : decode cX12_carries 14 = .ok (.aload_n 0, 1) := by decide +kernel
theorem dX12_carries_15 : decode cX12_carries 15 = .ok (.getfield 351, 3) := by decide +kernel
theorem dX12_carries_18 : decode cX12_carries 18 = .ok (.iastore, 1) := by decide +kernel
theorem dX12_carries_19 : decode cX12_carries 19 = .ok (.aload_n 0, 1) := by decide +kernel
theorem dX12_carries_20 : decode cX12_carries 20 = .ok (.aload_n 0, 1) := by decide +kernel
theorem dX12_carries_21 : decode cX12_carries 21 = .ok (.getfield 136, 3) := by decide +kernel
theorem dX12_carries_24 : decode cX12_carries 24 = .ok (.iconst 1, 1) := by decide +kernel
theorem dX12_carries_25 : decode cX12_carries 25 = .ok (.invokevirtual 563, 3) := by decide +kernel
theorem dX12_carries_28 : decode cX12_carries 28 = .ok (.aload_n 0, 1) := by decide +kernel
theorem dX12_carries_29 : decode cX12_carries 29 = .ok (.aload_n 0, 1) := by decide +kernel
theorem dX12_carries_30 : decode cX12_carries 30 = .ok (.getfield 136, 3) := by decide +kernel
theorem dX12_carries_33 : decode cX12_carries 33 = .ok (.iconst 0, 1) := by decide +kernel
theorem dX12_carries_34 : decode cX12_carries 34 = .ok (.iaload, 1) := by decide +kernel
theorem dX12_carries_35 : decode cX12_carries 35 = .ok (.putfield 351, 3) := by decide +kernel
theorem dX12_carries_38 : decode cX12_carries 38 = .ok (.aload_n 0, 1) := by decide +kernel
theorem dX12_carries_39 : decode cX12_carries 39 = .ok (.aload_n 0, 1) := by decide +kernel
theorem dX12_carries_40 : decode cX12_carries 40 = .ok (.getfield 13, 3) := by decide +kernel
theorem dX12_carries_43 : decode cX12_carries 43 = .ok (.sipush 300, 3) := by decide +kernel
theorem dX12_carries_46 : decode cX12_carries 46 = .ok (.invokevirtual 563, 3) := by decide +kernel
theorem dX12_carries_49 : decode cX12_carries 49 = .ok (.aload_n 0, 1) := by decide +kernel
theorem dX12_carries_50 : decode cX12_carries 50 = .ok (.aload_n 0, 1) := by decide +kernel
theorem dX12_carries_51 : decode cX12_carries 51 = .ok (.getfield 17, 3) := by decide +kernel
theorem dX12_carries_54 : decode cX12_carries 54 = .ok (.sipush 300, 3) := by decide +kernel
theorem dX12_carries_57 : decode cX12_carries 57 = .ok (.invokevirtual 563, 3) := by decide +kernel
theorem dX12_carries_60 : decode cX12_carries 60 = .ok (.aload_n 0, 1) := by decide +kernel
theorem dX12_carries_61 : decode cX12_carries 61 = .ok (.aload_n 0, 1) := by decide +kernel
theorem dX12_carries_62 : decode cX12_carries 62 = .ok (.getfield 20, 3) := by decide +kernel
theorem dX12_carries_65 : decode cX12_carries 65 = .ok (.iconst 1, 1) := by decide +kernel
theorem dX12_carries_66 : decode cX12_carries 66 = .ok (.invokevirtual 563, 3) := by decide +kernel
theorem dX12_carries_69 : decode cX12_carries 69 = .ok (.aload_n 0, 1) := by decide +kernel
theorem dX12_carries_70 : decode cX12_carries 70 = .ok (.aload_n 0, 1) := by decide +kernel
theorem dX12_carries_71 : decode cX12_carries 71 = .ok (.getfield 23, 3) := by decide +kernel
theorem dX12_carries_74 : decode cX12_carries 74 = .ok (.bipush 24, 2) := by decide +kernel
theorem dX12_carries_76 : decode cX12_carries 76 = .ok (.invokevirtual 563, 3) := by decide +kernel
theorem dX12_carries_79 : decode cX12_carries 79 = .ok (.aload_n 0, 1) := by decide +kernel
theorem dX12_carries_80 : decode cX12_carries 80 = .ok (.aload_n 0, 1) := by decide +kernel
theorem dX12_carries_81 : decode cX12_carries 81 = .ok (.getfield 26, 3) := by decide +kernel
theorem dX12_carries_84 : decode cX12_carries 84 = .ok (.bipush 24, 2) := by decide +kernel
theorem dX12_carries_86 : decode cX12_carries 86 = .ok (.invokevirtual 563, 3) := by decide +kernel
theorem dX12_carries_89 : decode cX12_carries 89 = .ok (.aload_n 0, 1) := by decide +kernel
theorem dX12_carries_90 : decode cX12_carries 90 = .ok (.aload_n 0, 1) := by decide +kernel
theorem dX12_carries_91 : decode cX12_carries 91 = .ok (.getfield 29, 3) := by decide +kernel
theorem dX12_carries_94 : decode cX12_carries 94 = .ok (.bipush 24, 2) := by decide +kernel
theorem dX12_carries_96 : decode cX12_carries 96 = .ok (.invokevirtual 563, 3) := by decide +kernel
theorem dX12_carries_99 : decode cX12_carries 99 = .ok (.aload_n 0, 1) := by decide +kernel
theorem dX12_carries_100 : decode cX12_carries 100 = .ok (.aload_n 0, 1) := by decide +kernel
theorem dX12_carries_101 : decode cX12_carries 101 = .ok (.getfield 35, 3) := by decide +kernel
theorem dX12_carries_104 : decode cX12_carries 104 = .ok (.bipush 24, 2) := by decide +kernel
theorem dX12_carries_106 : decode cX12_carries 106 = .ok (.invokevirtual 563, 3) := by decide +kernel
theorem dX12_carries_109 : decode cX12_carries 109 = .ok (.aload_n 0, 1) := by decide +kernel
theorem dX12_carries_110 : decode cX12_carries 110 = .ok (.aload_n 0, 1) := by decide +kernel
theorem dX12_carries_111 : decode cX12_carries 111 = .ok (.getfield 38, 3) := by decide +kernel
theorem dX12_carries_114 : decode cX12_carries 114 = .ok (.bipush 24, 2) := by decide +kernel
theorem dX12_carries_116 : decode cX12_carries 116 = .ok (.invokevirtual 563, 3) := by decide +kernel
theorem dX12_carries_119 : decode cX12_carries 119 = .ok (.aload_n 0, 1) := by decide +kernel
theorem dX12_carries_120 : decode cX12_carries 120 = .ok (.aload_n 0, 1) := by decide +kernel
theorem dX12_carries_121 : decode cX12_carries 121 = .ok (.getfield 44, 3) := by decide +kernel
theorem dX12_carries_124 : decode cX12_carries 124 = .ok (.bipush 8, 2) := by decide +kernel
theorem dX12_carries_126 : decode cX12_carries 126 = .ok (.invokevirtual 563, 3) := by decide +kernel
theorem dX12_carries_129 : decode cX12_carries 129 = .ok (.aload_n 0, 1) := by decide +kernel
theorem dX12_carries_130 : decode cX12_carries 130 = .ok (.aload_n 0, 1) := by decide +kernel
theorem dX12_carries_131 : decode cX12_carries 131 = .ok (.getfield 47, 3) := by decide +kernel
theorem dX12_carries_134 : decode cX12_carries 134 = .ok (.bipush 8, 2) := by decide +kernel
theorem dX12_carries_136 : decode cX12_carries 136 = .ok (.invokevirtual 563, 3) := by decide +kernel
theorem dX12_carries_139 : decode cX12_carries 139 = .ok (.aload_n 0, 1) := by decide +kernel
theorem dX12_carries_140 : decode cX12_carries 140 = .ok (.aload_n 0, 1) := by decide +kernel
theorem dX12_carries_141 : decode cX12_carries 141 = .ok (.getfield 50, 3) := by decide +kernel
theorem dX12_carries_144 : decode cX12_carries 144 = .ok (.bipush 8, 2) := by decide +kernel
theorem dX12_carries_146 : decode cX12_carries 146 = .ok (.invokevirtual 563, 3) := by decide +kernel
theorem dX12_carries_149 : decode cX12_carries 149 = .ok (.aload_n 0, 1) := by decide +kernel
theorem dX12_carries_150 : decode cX12_carries 150 = .ok (.aload_n 0, 1) := by decide +kernel
theorem dX12_carries_151 : decode cX12_carries 151 = .ok (.getfield 53, 3) := by decide +kernel
theorem dX12_carries_154 : decode cX12_carries 154 = .ok (.bipush 8, 2) := by decide +kernel
theorem dX12_carries_156 : decode cX12_carries 156 = .ok (.invokevirtual 563, 3) := by decide +kernel
theorem dX12_carries_159 : decode cX12_carries 159 = .ok (.aload_n 0, 1) := by decide +kernel
theorem dX12_carries_160 : decode cX12_carries 160 = .ok (.aload_n 0, 1) := by decide +kernel
theorem dX12_carries_161 : decode cX12_carries 161 = .ok (.getfield 56, 3) := by decide +kernel
theorem dX12_carries_164 : decode cX12_carries 164 = .ok (.bipush 8, 2) := by decide +kernel
theorem dX12_carries_166 : decode cX12_carries 166 = .ok (.invokevirtual 563, 3) := by decide +kernel
theorem dX12_carries_169 : decode cX12_carries 169 = .ok (.aload_n 0, 1) := by decide +kernel
theorem dX12_carries_170 : decode cX12_carries 170 = .ok (.aload_n 0, 1) := by decide +kernel
theorem dX12_carries_171 : decode cX12_carries 171 = .ok (.getfield 59, 3) := by decide +kernel
theorem dX12_carries_174 : decode cX12_carries 174 = .ok (.bipush 8, 2) := by decide +kernel
theorem dX12_carries_176 : decode cX12_carries 176 = .ok (.invokevirtual 563, 3) := by decide +kernel
theorem dX12_carries_179 : decode cX12_carries 179 = .ok (.aload_n 0, 1) := by decide +kernel
theorem dX12_carries_180 : decode cX12_carries 180 = .ok (.aload_n 0, 1) := by decide +kernel
theorem dX12_carries_181 : decode cX12_carries 181 = .ok (.getfield 62, 3) := by decide +kernel
theorem dX12_carries_184 : decode cX12_carries 184 = .ok (.bipush 8, 2) := by decide +kernel
theorem dX12_carries_186 : decode cX12_carries 186 = .ok (.invokevirtual 563, 3) := by decide +kernel
theorem dX12_carries_189 : decode cX12_carries 189 = .ok (.aload_n 0, 1) := by decide +kernel
theorem dX12_carries_190 : decode cX12_carries 190 = .ok (.aload_n 0, 1) := by decide +kernel
theorem dX12_carries_191 : decode cX12_carries 191 = .ok (.getfield 65, 3) := by decide +kernel
theorem dX12_carries_194 : decode cX12_carries 194 = .ok (.iconst 1, 1) := by decide +kernel
theorem dX12_carries_195 : decode cX12_carries 195 = .ok (.invokevirtual 563, 3) := by decide +kernel
theorem dX12_carries_198 : decode cX12_carries 198 = .ok (.aload_n 0, 1) := by decide +kernel
theorem dX12_carries_199 : decode cX12_carries 199 = .ok (.aload_n 0, 1) := by decide +kernel
theorem dX12_carries_200 : decode cX12_carries 200 = .ok (.getfield 68, 3) := by decide +kernel
theorem dX12_carries_203 : decode cX12_carries 203 = .ok (.iconst 1, 1) := by decide +kernel
theorem dX12_carries_204 : decode cX12_carries 204 = .ok (.invokevirtual 563, 3) := by decide +kernel
theorem dX12_carries_207 : decode cX12_carries 207 = .ok (.aload_n 0, 1) := by decide +kernel
theorem dX12_carries_208 : decode cX12_carries 208 = .ok (.aload_n 0, 1) := by decide +kernel
theorem dX12_carries_209 : decode cX12_carries 209 = .ok (.getfield 71, 3) := by decide +kernel
theorem dX12_carries_212 : decode cX12_carries 212 = .ok (.iconst 1, 1) := by decide +kernel
theorem dX12_carries_213 : decode cX12_carries 213 = .ok (.invokevirtual 563, 3) := by decide +kernel
theorem dX12_carries_216 : decode cX12_carries 216 = .ok (.aload_n 0, 1) := by decide +kernel
theorem dX12_carries_217 : decode cX12_carries 217 = .ok (.aload_n 0, 1) := by decide +kernel
theorem dX12_carries_218 : decode cX12_carries 218 = .ok (.getfield 74, 3) := by decide +kernel
theorem dX12_carries_221 : decode cX12_carries 221 = .ok (.iconst 1, 1) := by decide +kernel
theorem dX12_carries_222 : decode cX12_carries 222 = .ok (.invokevirtual 563, 3) := by decide +kernel
theorem dX12_carries_225 : decode cX12_carries 225 = .ok (.aload_n 0, 1) := by decide +kernel
theorem dX12_carries_226 : decode cX12_carries 226 = .ok (.aload_n 0, 1) := by decide +kernel
theorem dX12_carries_227 : decode cX12_carries 227 = .ok (.getfield 77, 3) := by decide +kernel
theorem dX12_carries_230 : decode cX12_carries 230 = .ok (.iconst 1, 1) := by decide +kernel
theorem dX12_carries_231 : decode cX12_carries 231 = .ok (.invokevirtual 563, 3) := by decide +kernel
theorem dX12_carries_234 : decode cX12_carries 234 = .ok (.aload_n 0, 1) := by decide +kernel
theorem dX12_carries_235 : decode cX12_carries 235 = .ok (.aload_n 0, 1) := by decide +kernel
theorem dX12_carries_236 : decode cX12_carries 236 = .ok (.getfield 87, 3) := by decide +kernel
theorem dX12_carries_239 : decode cX12_carries 239 = .ok (.bipush 60, 2) := by decide +kernel
theorem dX12_carries_241 : decode cX12_carries 241 = .ok (.invokevirtual 563, 3) := by decide +kernel
theorem dX12_carries_244 : decode cX12_carries 244 = .ok (.aload_n 0, 1) := by decide +kernel
theorem dX12_carries_245 : decode cX12_carries 245 = .ok (.aload_n 0, 1) := by decide +kernel
theorem dX12_carries_246 : decode cX12_carries 246 = .ok (.getfield 90, 3) := by decide +kernel
theorem dX12_carries_249 : decode cX12_carries 249 = .ok (.bipush 60, 2) := by decide +kernel
theorem dX12_carries_251 : decode cX12_carries 251 = .ok (.invokevirtual 563, 3) := by decide +kernel
theorem dX12_carries_254 : decode cX12_carries 254 = .ok (.aload_n 0, 1) := by decide +kernel
theorem dX12_carries_255 : decode cX12_carries 255 = .ok (.aload_n 0, 1) := by decide +kernel
theorem dX12_carries_256 : decode cX12_carries 256 = .ok (.getfield 93, 3) := by decide +kernel
theorem dX12_carries_259 : decode cX12_carries 259 = .ok (.bipush 60, 2) := by decide +kernel
theorem dX12_carries_261 : decode cX12_carries 261 = .ok (.invokevirtual 563, 3) := by decide +kernel
theorem dX12_carries_264 : decode cX12_carries 264 = .ok (.return_, 1) := by decide +kernel
theorem dX12_image_0 : decode cX12_image 0 = .ok (.iload_n 1, 1) := by decide +kernel
theorem dX12_image_1 : decode cX12_image 1 = .ok (.i2l, 1) := by decide +kernel
theorem dX12_image_2 : decode cX12_image 2 = .ok (.lconst 0, 1) := by decide +kernel
theorem dX12_image_3 : decode cX12_image 3 = .ok (.ldc2_w 552, 3) := by decide +kernel
theorem dX12_image_6 : decode cX12_image 6 = .ok (.invokestatic 201, 3) := by decide +kernel
theorem dX12_image_9 : decode cX12_image 9 = .ok (.ifCond .ne 5, 3) := by decide +kernel
theorem dX12_image_12 : decode cX12_image 12 = .ok (.iconst (-1), 1) := by decide +kernel
theorem dX12_image_13 : decode cX12_image 13 = .ok (.ireturn, 1) := by decide +kernel
theorem dX12_image_14 : decode cX12_image 14 = .ok (.aload_n 0, 1) := by decide +kernel
theorem dX12_image_15 : decode cX12_image 15 = .ok (.getfield 133, 3) := by decide +kernel
theorem dX12_image_18 : decode cX12_image 18 = .ok (.iload_n 1, 1) := by decide +kernel
theorem dX12_image_19 : decode cX12_image 19 = .ok (.iconst 1, 1) := by decide +kernel
theorem dX12_image_20 : decode cX12_image 20 = .ok (.bastore, 1) := by decide +kernel
theorem dX12_image_21 : decode cX12_image 21 = .ok (.aload_n 0, 1) := by decide +kernel
theorem dX12_image_22 : decode cX12_image 22 = .ok (.iconst 0, 1) := by decide +kernel
theorem dX12_image_23 : decode cX12_image 23 = .ok (.putfield 557, 3) := by decide +kernel
theorem dX12_image_26 : decode cX12_image 26 = .ok (.aload_n 0, 1) := by decide +kernel
theorem dX12_image_27 : decode cX12_image 27 = .ok (.iload_n 1, 1) := by decide +kernel
theorem dX12_image_28 : decode cX12_image 28 = .ok (.invokevirtual 566, 3) := by decide +kernel
theorem dX12_image_31 : decode cX12_image 31 = .ok (.aload_n 0, 1) := by decide +kernel
theorem dX12_image_32 : decode cX12_image 32 = .ok (.getfield 351, 3) := by decide +kernel
theorem dX12_image_35 : decode cX12_image 35 = .ok (.ireturn, 1) := by decide +kernel
theorem dX12_back_0 : decode cX12_back 0 = .ok (.iload_n 1, 1) := by decide +kernel
theorem dX12_back_1 : decode cX12_back 1 = .ok (.i2l, 1) := by decide +kernel
theorem dX12_back_2 : decode cX12_back 2 = .ok (.lconst 0, 1) := by decide +kernel
theorem dX12_back_3 : decode cX12_back 3 = .ok (.ldc2_w 552, 3) := by decide +kernel
theorem dX12_back_6 : decode cX12_back 6 = .ok (.invokestatic 201, 3) := by decide +kernel
theorem dX12_back_9 : decode cX12_back 9 = .ok (.ifCond .eq 12, 3) := by decide +kernel
theorem dX12_back_12 : decode cX12_back 12 = .ok (.aload_n 0, 1) := by decide +kernel
theorem dX12_back_13 : decode cX12_back 13 = .ok (.getfield 133, 3) := by decide +kernel
theorem dX12_back_16 : decode cX12_back 16 = .ok (.iload_n 1, 1) := by decide +kernel
theorem dX12_back_17 : decode cX12_back 17 = .ok (.baload, 1) := by decide +kernel
theorem dX12_back_18 : decode cX12_back 18 = .ok (.ifCond .ne 5, 3) := by decide +kernel
theorem dX12_back_21 : decode cX12_back 21 = .ok (.iconst (-1), 1) := by decide +kernel
theorem dX12_back_22 : decode cX12_back 22 = .ok (.ireturn, 1) := by decide +kernel
theorem dX12_back_23 : decode cX12_back 23 = .ok (.aload_n 0, 1) := by decide +kernel
theorem dX12_back_24 : decode cX12_back 24 = .ok (.iconst 1, 1) := by decide +kernel
theorem dX12_back_25 : decode cX12_back 25 = .ok (.putfield 557, 3) := by decide +kernel
theorem dX12_back_28 : decode cX12_back 28 = .ok (.aload_n 0, 1) := by decide +kernel
theorem dX12_back_29 : decode cX12_back 29 = .ok (.iload_n 1, 1) := by decide +kernel
theorem dX12_back_30 : decode cX12_back 30 = .ok (.invokevirtual 566, 3) := by decide +kernel
theorem dX12_back_33 : decode cX12_back 33 = .ok (.aload_n 0, 1) := by decide +kernel
theorem dX12_back_34 : decode cX12_back 34 = .ok (.getfield 351, 3) := by decide +kernel
theorem dX12_back_37 : decode cX12_back 37 = .ok (.ireturn, 1) := by decide +kernel
