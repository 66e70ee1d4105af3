theorem dX11_init_0 : decode cX11_init 0 = .ok (.aload_n 0, 1) := by decide +kernel
theorem dX11_init_1 : decode cX11_init 1 = .ok (.invokespecial 1, 3) := by decide +kernel
theorem dX11_init_4 : decode cX11_init 4 = .ok (.aload_n 0, 1) := by decide +kernel
theorem dX11_init_5 : decode cX11_init 5 = .ok (.bipush 6, 2) := by decide +kernel
theorem dX11_init_7 : decode cX11_init 7 = .ok (.newarray .int, 2) := by decide +kernel
theorem dX11_init_9 : decode cX11_init 9 = .ok (.putfield 7, 3) := by decide +kernel
theorem dX11_init_12 : decode cX11_init 12 = .ok (.aload_n 0, 1) := by decide +kernel
theorem dX11_init_13 : decode cX11_init 13 = .ok (.bipush 6, 2) := by decide +kernel
theorem dX11_init_15 : decode cX11_init 15 = .ok (.newarray .int, 2) := by decide +kernel
theorem dX11_init_17 : decode cX11_init 17 = .ok (.putfield 13, 3) := by decide +kernel
theorem dX11_init_20 : decode cX11_init 20 = .ok (.aload_n 0, 1) := by decide +kernel
theorem dX11_init_21 : decode cX11_init 21 = .ok (.bipush 6, 2) := by decide +kernel
theorem dX11_init_23 : decode cX11_init 23 = .ok (.newarray .int, 2) := by decide +kernel
theorem dX11_init_25 : decode cX11_init 25 = .ok (.putfield 16, 3) := by decide +kernel
theorem dX11_init_28 : decode cX11_init 28 = .ok (.aload_n 0, 1) := by decide +kernel
theorem dX11_init_29 : decode cX11_init 29 = .ok (.bipush 12, 2) := by decide +kernel
theorem dX11_init_31 : decode cX11_init 31 = .ok (.newarray .int, 2) := by decide +kernel
theorem dX11_init_33 : decode cX11_init 33 = .ok (.putfield 19, 3) := by decide +kernel
theorem dX11_init_36 : decode cX11_init 36 = .ok (.aload_n 0, 1) := by decide +kernel
theorem dX11_init_37 : decode cX11_init 37 = .ok (.bipush 12, 2) := by decide +kernel
theorem dX11_init_39 : decode cX11_init 39 = .ok (.newarray .int, 2) := by decide +kernel
theorem dX11_init_41 : decode cX11_init 41 = .ok (.putfield 22, 3) := by decide +kernel
theorem dX11_init_44 : decode cX11_init 44 = .ok (.aload_n 0, 1) := by decide +kernel
theorem dX11_init_45 : decode cX11_init 45 = .ok (.bipush 12, 2) := by decide +kernel
theorem dX11_init_47 : decode cX11_init 47 = .ok (.newarray .int, 2) := by decide +kernel
theorem dX11_init_49 : decode cX11_init 49 = .ok (.putfield 25, 3) := by decide +kernel
theorem dX11_init_52 : decode cX11_init 52 = .ok (.aload_n 0, 1) := by decide +kernel
theorem dX11_init_53 : decode cX11_init 53 = .ok (.bipush 24, 2) := by decide +kernel
theorem dX11_init_55 : decode cX11_init 55 = .ok (.newarray .int, 2) := by decide +kernel
theorem dX11_init_57 : decode cX11_init 57 = .ok (.putfield 28, 3) := by decide +kernel
theorem dX11_init_60 : decode cX11_init 60 = .ok (.aload_n 0, 1) := by decide +kernel
theorem dX11_init_61 : decode cX11_init 61 = .ok (.bipush 12, 2) := by decide +kernel
theorem dX11_init_63 : decode cX11_init 63 = .ok (.newarray .int, 2) := by decide +kernel
theorem dX11_init_65 : decode cX11_init 65 = .ok (.putfield 31, 3) := by decide +kernel
theorem dX11_init_68 : decode cX11_init 68 = .ok (.aload_n 0, 1) := by decide +kernel
theorem dX11_init_69 : decode cX11_init 69 = .ok (.bipush 12, 2) := by decide +kernel
theorem dX11_init_71 : decode cX11_init 71 = .ok (.newarray .int, 2) := by decide +kernel
theorem dX11_init_73 : decode cX11_init 73 = .ok (.putfield 34, 3) := by decide +kernel
theorem dX11_init_76 : decode cX11_init 76 = .ok (.aload_n 0, 1) := by decide +kernel
theorem dX11_init_77 : decode cX11_init 77 = .ok (.bipush 12, 2) := by decide +kernel
theorem dX11_init_79 : decode cX11_init 79 = .ok (.newarray .boolean, 2) := by decide +kernel
theorem dX11_init_81 : decode cX11_init 81 = .ok (.putfield 37, 3) := by decide +kernel
theorem dX11_init_84 : decode cX11_init 84 = .ok (.aload_n 0, 1) := by decide +kernel
theorem dX11_init_85 : decode cX11_init 85 = .ok (.bipush 6, 2) := by decide +kernel
theorem dX11_init_87 : decode cX11_init 87 = .ok (.newarray .int, 2) := by decide +kernel
theorem dX11_init_89 : decode cX11_init 89 = .ok (.putfield 41, 3) := by decide +kernel
theorem dX11_init_92 : decode cX11_init 92 = .ok (.aload_n 0, 1) := by decide +kernel
theorem dX11_init_93 : decode cX11_init 93 = .ok (.bipush 6, 2) := by decide +kernel
theorem dX11_init_95 : decode cX11_init 95 = .ok (.newarray .int, 2) := by decide +kernel
theorem dX11_init_97 : decode cX11_init 97 = .ok (.putfield 44, 3) := by decide +kernel
theorem dX11_init_100 : decode cX11_init 100 = .ok (.aload_n 0, 1) := by decide +kernel
theorem dX11_init_101 : decode cX11_init 101 = .ok (.bipush 6, 2) := by decide +kernel
theorem dX11_init_103 : decode cX11_init 103 = .ok (.newarray .int, 2) := by decide +kernel
theorem dX11_init_105 : decode cX11_init 105 = .ok (.putfield 47, 3) := by decide +kernel
theorem dX11_init_108 : decode cX11_init 108 = .ok (.aload_n 0, 1) := by decide +kernel
theorem dX11_init_109 : decode cX11_init 109 = .ok (.sipush 2400, 3) := by decide +kernel
theorem dX11_init_112 : decode cX11_init 112 = .ok (.newarray .int, 2) := by decide +kernel
theorem dX11_init_114 : decode cX11_init 114 = .ok (.putfield 50, 3) := by decide +kernel
theorem dX11_init_117 : decode cX11_init 117 = .ok (.aload_n 0, 1) := by decide +kernel
theorem dX11_init_118 : decode cX11_init 118 = .ok (.sipush 2400, 3) := by decide +kernel
theorem dX11_init_121 : decode cX11_init 121 = .ok (.newarray .int, 2) := by decide +kernel
theorem dX11_init_123 : decode cX11_init 123 = .ok (.putfield 53, 3) := by decide +kernel
theorem dX11_init_126 : decode cX11_init 126 = .ok (.aload_n 0, 1) := by decide +kernel
theorem dX11_init_127 : decode cX11_init 127 = .ok (.sipush 500, 3) := by decide +kernel
theorem dX11_init_130 : decode cX11_init 130 = .ok (.newarray .int, 2) := by decide +kernel
theorem dX11_init_132 : decode cX11_init 132 = .ok (.putfield 56, 3) := by decide +kernel
theorem dX11_init_135 : decode cX11_init 135 = .ok (.aload_n 0, 1) := by decide +kernel
theorem dX11_init_136 : decode cX11_init 136 = .ok (.iconst (-1), 1) := by decide +kernel
theorem dX11_init_137 : decode cX11_init 137 = .ok (.putfield 59, 3) := by decide +kernel
theorem dX11_init_140 : decode cX11_init 140 = .ok (.aload_n 0, 1) := by decide +kernel
theorem dX11_init_141 : decode cX11_init 141 = .ok (.bipush 6, 2) := by decide +kernel
theorem dX11_init_143 : decode cX11_init 143 = .ok (.newarray .int, 2) := by decide +kernel
theorem dX11_init_145 : decode cX11_init 145 = .ok (.putfield 63, 3) := by decide +kernel
theorem dX11_init_148 : decode cX11_init 148 = .ok (.aload_n 0, 1) := by decide +kernel
theorem dX11_init_149 : decode cX11_init 149 = .ok (.bipush 6, 2) := by decide +kernel
theorem dX11_init_151 : decode cX11_init 151 = .ok (.newarray .int, 2) := by decide +kernel
theorem dX11_init_153 : decode cX11_init 153 = .ok (.putfield 66, 3) := by decide +kernel
theorem dX11_init_156 : decode cX11_init 156 = .ok (.aload_n 0, 1) := by decide +kernel
theorem dX11_init_157 : decode cX11_init 157 = .ok (.bipush 6, 2) := by decide +kernel
theorem dX11_init_159 : decode cX11_init 159 = .ok (.newarray .int, 2) := by decide +kernel
theorem dX11_init_161 : decode cX11_init 161 = .ok (.putfield 69, 3) := by decide +kernel
theorem dX11_init_164 : decode cX11_init 164 = .ok (.aload_n 0, 1) := by decide +kernel
theorem dX11_init_165 : decode cX11_init 165 = .ok (.bipush 12, 2) := by decide +kernel
theorem dX11_init_167 : decode cX11_init 167 = .ok (.newarray .int, 2) := by decide +kernel
theorem dX11_init_169 : decode cX11_init 169 = .ok (.putfield 72, 3) := by decide +kernel
theorem dX11_init_172 : decode cX11_init 172 = .ok (.aload_n 0, 1) := by decide +kernel
theorem dX11_init_173 : decode cX11_init 173 = .ok (.bipush 12, 2) := by decide +kernel
theorem dX11_init_175 : decode cX11_init 175 = .ok (.newarray .int, 2) := by decide +kernel
theorem dX11_init_177 : decode cX11_init 177 = .ok (.putfield 75, 3) := by decide +kernel
theorem dX11_init_180 : decode cX11_init 180 = .ok (.aload_n 0, 1) := by decide +kernel
theorem dX11_init_181 : decode cX11_init 181 = .ok (.bipush 12, 2) := by decide +kernel
theorem dX11_init_183 : decode cX11_init 183 = .ok (.newarray .int, 2) := by decide +kernel
theorem dX11_init_185 : decode cX11_init 185 = .ok (.putfield 78, 3) := by decide +kernel
theorem dX11_init_188 : decode cX11_init 188 = .ok (.aload_n 0, 1) := by decide +kernel
theorem dX11_init_189 : decode cX11_init 189 = .ok (.bipush 24, 2) := by decide +kernel
theorem dX11_init_191 : decode cX11_init 191 = .ok (.newarray .int, 2) := by decide +kernel
theorem dX11_init_193 : decode cX11_init 193 = .ok (.putfield 81, 3) := by decide +kernel
theorem dX11_init_196 : decode cX11_init 196 = .ok (.aload_n 0, 1) := by decide +kernel
theorem dX11_init_197 : decode cX11_init 197 = .ok (.bipush 6, 2) := by decide +kernel
theorem dX11_init_199 : decode cX11_init 199 = .ok (.newarray .int, 2) := by decide +kernel
theorem dX11_init_201 : decode cX11_init 201 = .ok (.putfield 84, 3) := by decide +kernel
theorem dX11_init_204 : decode cX11_init 204 = .ok (.aload_n 0, 1) := by decide +kernel
theorem dX11_init_205 : decode cX11_init 205 = .ok (.bipush 6, 2) := by decide +kernel
theorem dX11_init_207 : decode cX11_init 207 = .ok (.newarray .int, 2) := by decide +kernel
theorem dX11_init_209 : decode cX11_init 209 = .ok (.putfield 87, 3) := by decide +kernel
theorem dX11_init_212 : decode cX11_init 212 = .ok (.aload_n 0, 1) := by decide +kernel
theorem dX11_init_213 : decode cX11_init 213 = .ok (.bipush 64, 2) := by decide +kernel
theorem dX11_init_215 : decode cX11_init 215 = .ok (.newarray .long, 2) := by decide +kernel
theorem dX11_init_217 : decode cX11_init 217 = .ok (.putfield 90, 3) := by decide +kernel
theorem dX11_init_220 : decode cX11_init 220 = .ok (.aload_n 0, 1) := by decide +kernel
theorem dX11_init_221 : decode cX11_init 221 = .ok (.bipush 64, 2) := by decide +kernel
theorem dX11_init_223 : decode cX11_init 223 = .ok (.newarray .long, 2) := by decide +kernel
theorem dX11_init_225 : decode cX11_init 225 = .ok (.putfield 94, 3) := by decide +kernel
theorem dX11_init_228 : decode cX11_init 228 = .ok (.aload_n 0, 1) := by decide +kernel
theorem dX11_init_229 : decode cX11_init 229 = .ok (.bipush 12, 2) := by decide +kernel
theorem dX11_init_231 : decode cX11_init 231 = .ok (.newarray .boolean, 2) := by decide +kernel
theorem dX11_init_233 : decode cX11_init 233 = .ok (.putfield 97, 3) := by decide +kernel
theorem dX11_init_236 : decode cX11_init 236 = .ok (.aload_n 0, 1) := by decide +kernel
theorem dX11_init_237 : decode cX11_init 237 = .ok (.bipush 64, 2) := by decide +kernel
theorem dX11_init_239 : decode cX11_init 239 = .ok (.newarray .long, 2) := by decide +kernel
theorem dX11_init_241 : decode cX11_init 241 = .ok (.putfield 100, 3) := by decide +kernel
theorem dX11_init_244 : decode cX11_init 244 = .ok (.aload_n 0, 1) := by decide +kernel
theorem dX11_init_245 : decode cX11_init 245 = .ok (.bipush 6, 2) := by decide +kernel
theorem dX11_init_247 : decode cX11_init 247 = .ok (.newarray .int, 2) := by decide +kernel
theorem dX11_init_249 : decode cX11_init 249 = .ok (.putfield 103, 3) := by decide +kernel
theorem dX11_init_252 : decode cX11_init 252 = .ok (.aload_n 0, 1) := by decide +kernel
theorem dX11_init_253 : decode cX11_init 253 = .ok (.bipush 6, 2) := by decide +kernel
theorem dX11_init_255 : decode cX11_init 255 = .ok (.newarray .int, 2) := by decide +kernel
theorem dX11_init_257 : decode cX11_init 257 = .ok (.putfield 106, 3) := by decide +kernel
theorem dX11_init_260 : decode cX11_init 260 = .ok (.aload_n 0, 1) := by decide +kernel
theorem dX11_init_261 : decode cX11_init 261 = .ok (.sipush 360, 3) := by decide +kernel
theorem dX11_init_264 : decode cX11_init 264 = .ok (.newarray .int, 2) := by decide +kernel
theorem dX11_init_266 : decode cX11_init 266 = .ok (.putfield 109, 3) := by decide +kernel
theorem dX11_init_269 : decode cX11_init 269 = .ok (.aload_n 0, 1) := by decide +kernel
theorem dX11_init_270 : decode cX11_init 270 = .ok (.bipush 120, 2) := by decide +kernel
theorem dX11_init_272 : decode cX11_init 272 = .ok (.newarray .int, 2) := by decide +kernel
theorem dX11_init_274 : decode cX11_init 274 = .ok (.putfield 112, 3) := by decide +kernel
theorem dX11_init_277 : decode cX11_init 277 = .ok (.aload_n 0, 1) := by decide +kernel
theorem dX11_init_278 : decode cX11_init 278 = .ok (.sipush 4800, 3) := by decide +kernel
theorem dX11_init_281 : decode cX11_init 281 = .ok (.newarray .int, 2) := by decide +kernel
theorem dX11_init_283 : decode cX11_init 283 = .ok (.putfield 115, 3) := by decide +kernel
theorem dX11_init_286 : decode cX11_init 286 = .ok (.aload_n 0, 1) := by decide +kernel
theorem dX11_init_287 : decode cX11_init 287 = .ok (.sipush 4800, 3) := by decide +kernel
theorem dX11_init_290 : decode cX11_init 290 = .ok (.newarray .int, 2) := by decide +kernel
theorem dX11_init_292 : decode cX11_init 292 = .ok (.putfield 118, 3) := by decide +kernel
theorem dX11_init_295 : decode cX11_init 295 = .ok (.aload_n 0, 1) := by decide +kernel
theorem dX11_init_296 : decode cX11_init 296 = .ok (.iconst 2, 1) := by decide +kernel
theorem dX11_init_297 : decode cX11_init 297 = .ok (.newarray .boolean, 2) := by decide +kernel
theorem dX11_init_299 : decode cX11_init 299 = .ok (.putfield 121, 3) := by decide +kernel
theorem dX11_init_302 : decode cX11_init 302 = .ok (.aload_n 0, 1) := by decide +kernel
theorem dX11_init_303 : decode cX11_init 303 = .ok (.iconst 0, 1) := by decide +kernel
theorem dX11_init_304 : decode cX11_init 304 = .ok (.putfield 124, 3) := by decide +kernel
theorem dX11_init_307 : decode cX11_init 307 = .ok (.return_, 1) := by decide +kernel
theorem dX11_in_0 : decode cX11_in 0 = .ok (.lload_n 0, 1) := by decide +kernel
theorem dX11_in_1 : decode cX11_in 1 = .ok (.lload_n 2, 1) := by decide +kernel
theorem dX11_in_2 : decode cX11_in 2 = .ok (.lcmp, 1) := by decide +kernel
theorem dX11_in_3 : decode cX11_in 3 = .ok (.ifCond .lt 14, 3) := by decide +kernel
theorem dX11_in_6 : decode cX11_in 6 = .ok (.lload_n 0, 1) := by decide +kernel
theorem dX11_in_7 : decode cX11_in 7 = .ok (.lload 4, 2) := by decide +kernel
theorem dX11_in_9 : decode cX11_in 9 = .ok (.lcmp, 1) := by decide +kernel
theorem dX11_in_10 : decode cX11_in 10 = .ok (.ifCond .gt 7, 3) := by decide +kernel
theorem dX11_in_13 : decode cX11_in 13 = .ok (.iconst 1, 1) := by decide +kernel
theorem dX11_in_14 : decode cX11_in 14 = .ok (.goto 4, 3) := by decide +kernel
theorem dX11_in_17 : decode cX11_in 17 = .ok (.iconst 0, 1) := by decide +kernel
theorem dX11_in_18 : decode cX11_in 18 = .ok (.ireturn, 1) := by decide +kernel
theorem dX11_has_0 : decode cX11_has 0 = .ok (.iload_n 0, 1) := by decide +kernel
theorem dX11_has_1 : decode cX11_has 1 = .ok (.iload_n 1, 1) := by decide +kernel
theorem dX11_has_2 : decode cX11_has 2 = .ok (.ishr, 1) := by decide +kernel
theorem dX11_has_3 : decode cX11_has 3 = .ok (.iconst 1, 1) := by decide +kernel
theorem dX11_has_4 : decode cX11_has 4 = .ok (.iand, 1) := by decide +kernel
theorem dX11_has_5 : decode cX11_has 5 = .ok (.iconst 1, 1) := by decide +kernel
theorem dX11_has_6 : decode cX11_has 6 = .ok (.if_icmp .ne 7, 3) := by decide +kernel
theorem dX11_has_9 : decode cX11_has 9 = .ok (.iconst 1, 1) := by decide +kernel
theorem dX11_has_10 : decode cX11_has 10 = .ok (.goto 4, 3) := by decide +kernel
theorem dX11_has_13 : decode cX11_has 13 = .ok (.iconst 0, 1) := by decide +kernel
theorem dX11_has_14 : decode cX11_has 14 = .ok (.ireturn, 1) := by decide +kernel
theorem dX11_isSuit_0 : decode cX11_isSuit 0 = .ok (.iload_n 1, 1) := by decide +kernel
theorem dX11_isSuit_1 : decode cX11_isSuit 1 = .ok (.i2l, 1) := by decide +kernel
theorem dX11_isSuit_2 : decode cX11_isSuit 2 = .ok (.lconst 0, 1) := by decide +kernel
theorem dX11_isSuit_3 : decode cX11_isSuit 3 = .ok (.aload_n 0, 1) := by decide +kernel
theorem dX11_isSuit_4 : decode cX11_isSuit 4 = .ok (.getfield 124, 3) := by decide +kernel
theorem dX11_isSuit_7 : decode cX11_isSuit 7 = .ok (.iconst 1, 1) := by decide +kernel
theorem dX11_isSuit_8 : decode cX11_isSuit 8 = .ok (.isub, 1) := by decide +kernel
theorem dX11_isSuit_9 : decode cX11_isSuit 9 = .ok (.i2l, 1) := by decide +kernel
theorem dX11_isSuit_10 : decode cX11_isSuit 10 = .ok (.invokestatic 127, 3) := by decide +kernel
theorem dX11_isSuit_13 : decode cX11_isSuit 13 = .ok (.ireturn, 1) := by decide +kernel
theorem dX11_isWitness_0 : decode cX11_isWitness 0 = .ok (.iload_n 1, 1) := by decide +kernel
theorem dX11_isWitness_1 : decode cX11_isWitness 1 = .ok (.i2l, 1) := by decide +kernel
theorem dX11_isWitness_2 : decode cX11_isWitness 2 = .ok (.lconst 0, 1) := by decide +kernel
theorem dX11_isWitness_3 : decode cX11_isWitness 3 = .ok (.aload_n 0, 1) := by decide +kernel
theorem dX11_isWitness_4 : decode cX11_isWitness 4 = .ok (.getfield 131, 3) := by decide +kernel
theorem dX11_isWitness_7 : decode cX11_isWitness 7 = .ok (.iconst 1, 1) := by decide +kernel
theorem dX11_isWitness_8 : decode cX11_isWitness 8 = .ok (.isub, 1) := by decide +kernel
theorem dX11_isWitness_9 : decode cX11_isWitness 9 = .ok (.i2l, 1) := by decide +kernel
theorem dX11_isWitness_10 : decode cX11_isWitness 10 = .ok (.invokestatic 127, 3) := by decide +kernel
theorem dX11_isWitness_13 : decode cX11_isWitness 13 = .ok (.ireturn, 1) := by decide +kernel
theorem dX11_bits_0 : decode cX11_bits 0 = .ok (.iconst 0, 1) := by decide +kernel
theorem dX11_bits_1 : decode cX11_bits 1 = .ok (.istore_n 1, 1) := by decide +kernel
theorem dX11_bits_2 : decode cX11_bits 2 = .ok (.iconst 0, 1) := by decide +kernel
theorem dX11_bits_3 : decode cX11_bits 3 = .ok (.istore_n 2, 1) := by decide +kernel
theorem dX11_bits_4 : decode cX11_bits 4 = .ok (.iload_n 2, 1) := by decide +kernel
theorem dX11_bits_5 : decode cX11_bits 5 = .ok (.bipush 12, 2) := by decide +kernel
theorem dX11_bits_7 : decode cX11_bits 7 = .ok (.if_icmp .ge 17, 3) := by decide +kernel
theorem dX11_bits_10 : decode cX11_bits 10 = .ok (.iload_n 1, 1) := by decide +kernel
theorem dX11_bits_11 : decode cX11_bits 11 = .ok (.iload_n 0, 1) := by decide +kernel
theorem dX11_bits_12 : decode cX11_bits 12 = .ok (.iload_n 2, 1) := by decide +kernel
theorem dX11_bits_13 : decode cX11_bits 13 = .ok (.ishr, 1) := by decide +kernel
theorem dX11_bits_14 : decode cX11_bits 14 = .ok (.iconst 1, 1) := by decide +kernel
theorem dX11_bits_15 : decode cX11_bits 15 = .ok (.iand, 1) := by decide +kernel
theorem dX11_bits_16 : decode cX11_bits 16 = .ok (.iadd, 1) := by decide +kernel
theorem dX11_bits_17 : decode cX11_bits 17 = .ok (.istore_n 1, 1) := by decide +kernel
theorem dX11_bits_18 : decode cX11_bits 18 = .ok (.iinc 2 1, 3) := by decide +kernel
theorem dX11_bits_21 : decode cX11_bits 21 = .ok (.goto (-17), 3) := by decide +kernel
theorem dX11_bits_24 : decode cX11_bits 24 = .ok (.iload_n 1, 1) := by decide +kernel
theorem dX11_bits_25 : decode cX11_bits 25 = .ok (.ireturn, 1) := by decide +kernel
theorem dX11_feed_0 : decode cX11_feed 0 = .ok (.iload_n 1, 1) := by decide +kernel
theorem dX11_feed_1 : decode cX11_feed 1 = .ok (.i2l, 1) := by decide +kernel
theorem dX11_feed_2 : decode cX11_feed 2 = .ok (.lconst 1, 1) := by decide +kernel
theorem dX11_feed_3 : decode cX11_feed 3 = .ok (.ldc2_w 134, 3) := by decide +kernel
theorem dX11_feed_6 : decode cX11_feed 6 = .ok (.invokestatic 127, 3) := by decide +kernel
theorem dX11_feed_9 : decode cX11_feed 9 = .ok (.ifCond .ne 6, 3) := by decide +kernel
theorem dX11_feed_12 : decode cX11_feed 12 = .ok (.ldc 136, 2) := by decide +kernel
theorem dX11_feed_14 : decode cX11_feed 14 = .ok (.ireturn, 1) := by decide +kernel
theorem dX11_feed_15 : decode cX11_feed 15 = .ok (.aload_n 0, 1) := by decide +kernel
theorem dX11_feed_16 : decode cX11_feed 16 = .ok (.getfield 137, 3) := by decide +kernel
theorem dX11_feed_19 : decode cX11_feed 19 = .ok (.iload_n 1, 1) := by decide +kernel
theorem dX11_feed_20 : decode cX11_feed 20 = .ok (.iadd, 1) := by decide +kernel
theorem dX11_feed_21 : decode cX11_feed 21 = .ok (.sipush 500, 3) := by decide +kernel
theorem dX11_feed_24 : decode cX11_feed 24 = .ok (.if_icmp .le 6, 3) := by decide +kernel
theorem dX11_feed_27 : decode cX11_feed 27 = .ok (.ldc 140, 2) := by decide +kernel
theorem dX11_feed_29 : decode cX11_feed 29 = .ok (.ireturn, 1) := by decide +kernel
theorem dX11_feed_30 : decode cX11_feed 30 = .ok (.iload_n 1, 1) := by decide +kernel
theorem dX11_feed_31 : decode cX11_feed 31 = .ok (.iconst 1, 1) := by decide +kernel
theorem dX11_feed_32 : decode cX11_feed 32 = .ok (.isub, 1) := by decide +kernel
theorem dX11_feed_33 : decode cX11_feed 33 = .ok (.istore 4, 2) := by decide +kernel
theorem dX11_feed_35 : decode cX11_feed 35 = .ok (.iload 4, 2) := by decide +kernel
theorem dX11_feed_37 : decode cX11_feed 37 = .ok (.ifCond .lt 40, 3) := by decide +kernel
theorem dX11_feed_40 : decode cX11_feed 40 = .ok (.aload_n 0, 1) := by decide +kernel
theorem dX11_feed_41 : decode cX11_feed 41 = .ok (.getfield 56, 3) := by decide +kernel
theorem dX11_feed_44 : decode cX11_feed 44 = .ok (.aload_n 0, 1) := by decide +kernel
theorem dX11_feed_45 : decode cX11_feed 45 = .ok (.getfield 137, 3) := by decide +kernel
theorem dX11_feed_48 : decode cX11_feed 48 = .ok (.lload_n 2, 1) := by decide +kernel
theorem dX11_feed_49 : decode cX11_feed 49 = .ok (.bipush 8, 2) := by decide +kernel
theorem dX11_feed_51 : decode cX11_feed 51 = .ok (.iload 4, 2) := by decide +kernel
theorem dX11_feed_53 : decode cX11_feed 53 = .ok (.imul, 1) := by decide +kernel
theorem dX11_feed_54 : decode cX11_feed 54 = .ok (.lshr, 1) := by decide +kernel
theorem dX11_feed_55 : decode cX11_feed 55 = .ok (.ldc2_w 141, 3) := by decide +kernel
theorem dX11_feed_58 : decode cX11_feed 58 = .ok (.land, 1) := by decide +kernel
theorem dX11_feed_59 : decode cX11_feed 59 = .ok (.l2i, 1) := by decide +kernel
theorem dX11_feed_60 : decode cX11_feed 60 = .ok (.iastore, 1) := by decide +kernel
theorem dX11_feed_61 : decode cX11_feed 61 = .ok (.aload_n 0, 1) := by decide +kernel
theorem dX11_feed_62 : decode cX11_feed 62 = .ok (.dup, 1) := by decide +kernel
theorem dX11_feed_63 : decode cX11_feed 63 = .ok (.getfield 137, 3) := by decide +kernel
theorem dX11_feed_66 : decode cX11_feed 66 = .ok (.iconst 1, 1) := by decide +kernel
theorem dX11_feed_67 : decode cX11_feed 67 = .ok (.iadd, 1) := by decide +kernel
theorem dX11_feed_68 : decode cX11_feed 68 = .ok (.putfield 137, 3) := by decide +kernel
theorem dX11_feed_71 : decode cX11_feed 71 = .ok (.iinc 4 (-1), 3) := by decide +kernel
theorem dX11_feed_74 : decode cX11_feed 74 = .ok (.goto (-39), 3) := by decide +kernel
theorem dX11_feed_77 : decode cX11_feed 77 = .ok (.aload_n 0, 1) := by decide +kernel
theorem dX11_feed_78 : decode cX11_feed 78 = .ok (.getfield 137, 3) := by decide +kernel
theorem dX11_feed_81 : decode cX11_feed 81 = .ok (.ireturn, 1) := by decide +kernel
theorem dX11_here_0 : decode cX11_here 0 = .ok (.aload_n 0, 1) := by decide +kernel
theorem dX11_here_1 : decode cX11_here 1 = .ok (.getfield 143, 3) := by decide +kernel
theorem dX11_here_4 : decode cX11_here 4 = .ok (.aload_n 0, 1) := by decide +kernel
theorem dX11_here_5 : decode cX11_here 5 = .ok (.getfield 137, 3) := by decide +kernel
theorem dX11_here_8 : decode cX11_here 8 = .ok (.if_icmp .ge 30, 3) := by decide +kernel
theorem dX11_here_11 : decode cX11_here 11 = .ok (.aload_n 0, 1) := by decide +kernel
theorem dX11_here_12 : decode cX11_here 12 = .ok (.getfield 56, 3) := by decide +kernel
theorem dX11_here_15 : decode cX11_here 15 = .ok (.aload_n 0, 1) := by decide +kernel
theorem dX11_here_16 : decode cX11_here 16 = .ok (.getfield 143, 3) := by decide +kernel
theorem dX11_here_19 : decode cX11_here 19 = .ok (.iaload, 1) := by decide +kernel
theorem dX11_here_20 : decode cX11_here 20 = .ok (.bipush 32, 2) := by decide +kernel
theorem dX11_here_22 : decode cX11_here 22 = .ok (.if_icmp .ne 16, 3) := by decide +kernel
theorem dX11_here_25 : decode cX11_here 25 = .ok (.aload_n 0, 1) := by decide +kernel
theorem dX11_here_26 : decode cX11_here 26 = .ok (.dup, 1) := by decide +kernel
theorem dX11_here_27 : decode cX11_here 27 = .ok (.getfield 143, 3) := by decide +kernel
theorem dX11_here_30 : decode cX11_here 30 = .ok (.iconst 1, 1) := by decide +kernel
theorem dX11_here_31 : decode cX11_here 31 = .ok (.iadd, 1) := by decide +kernel
theorem dX11_here_32 : decode cX11_here 32 = .ok (.putfield 143, 3) := by decide +kernel
theorem dX11_here_35 : decode cX11_here 35 = .ok (.goto (-35), 3) := by decide +kernel
theorem dX11_here_38 : decode cX11_here 38 = .ok (.aload_n 0, 1) := by decide +kernel
theorem dX11_here_39 : decode cX11_here 39 = .ok (.getfield 143, 3) := by decide +kernel
theorem dX11_here_42 : decode cX11_here 42 = .ok (.aload_n 0, 1) := by decide +kernel
theorem dX11_here_43 : decode cX11_here 43 = .ok (.getfield 137, 3) := by decide +kernel
theorem dX11_here_46 : decode cX11_here 46 = .ok (.if_icmp .ge 15, 3) := by decide +kernel
theorem dX11_here_49 : decode cX11_here 49 = .ok (.aload_n 0, 1) := by decide +kernel
theorem dX11_here_50 : decode cX11_here 50 = .ok (.getfield 56, 3) := by decide +kernel
theorem dX11_here_53 : decode cX11_here 53 = .ok (.aload_n 0, 1) := by decide +kernel
theorem dX11_here_54 : decode cX11_here 54 = .ok (.getfield 143, 3) := by decide +kernel
theorem dX11_here_57 : decode cX11_here 57 = .ok (.iaload, 1) := by decide +kernel
theorem dX11_here_58 : decode cX11_here 58 = .ok (.goto 4, 3) := by decide +kernel
theorem dX11_here_61 : decode cX11_here 61 = .ok (.iconst (-1), 1) := by decide +kernel
theorem dX11_here_62 : decode cX11_here 62 = .ok (.ireturn, 1) := by decide +kernel
theorem dX11_fails_0 : decode cX11_fails 0 = .ok (.aload_n 0, 1) := by decide +kernel
theorem dX11_fails_1 : decode cX11_fails 1 = .ok (.iload_n 2, 1) := by decide +kernel
theorem dX11_fails_2 : decode cX11_fails 2 = .ok (.putfield 59, 3) := by decide +kernel
theorem dX11_fails_5 : decode cX11_fails 5 = .ok (.iload_n 1, 1) := by decide +kernel
theorem dX11_fails_6 : decode cX11_fails 6 = .ok (.ireturn, 1) := by decide +kernel
theorem dX11_readWord_0 : decode cX11_readWord 0 = .ok (.aload_n 0, 1) := by decide +kernel
theorem dX11_readWord_1 : decode cX11_readWord 1 = .ok (.invokevirtual 146, 3) := by decide +kernel
theorem dX11_readWord_4 : decode cX11_readWord 4 = .ok (.istore_n 1, 1) := by decide +kernel
theorem dX11_readWord_5 : decode cX11_readWord 5 = .ok (.aload_n 0, 1) := by decide +kernel
theorem dX11_readWord_6 : decode cX11_readWord 6 = .ok (.lconst 0, 1) := by decide +kernel
theorem dX11_readWord_7 : decode cX11_readWord 7 = .ok (.putfield 150, 3) := by decide +kernel
theorem dX11_readWord_10 : decode cX11_readWord 10 = .ok (.aload_n 0, 1) := by decide +kernel
theorem dX11_readWord_11 : decode cX11_readWord 11 = .ok (.aload_n 0, 1) := by decide +kernel
theorem dX11_readWord_12 : decode cX11_readWord 12 = .ok (.getfield 143, 3) := by decide +kernel
theorem dX11_readWord_15 : decode cX11_readWord 15 = .ok (.putfield 154, 3) := by decide +kernel
theorem dX11_readWord_18 : decode cX11_readWord 18 = .ok (.aload_n 0, 1) := by decide +kernel
theorem dX11_readWord_19 : decode cX11_readWord 19 = .ok (.getfield 154, 3) := by decide +kernel
theorem dX11_readWord_22 : decode cX11_readWord 22 = .ok (.aload_n 0, 1) := by decide +kernel
theorem dX11_readWord_23 : decode cX11_readWord 23 = .ok (.getfield 137, 3) := by decide +kernel
theorem dX11_readWord_26 : decode cX11_readWord 26 = .ok (.if_icmp .ge 82, 3) := by decide +kernel
theorem dX11_readWord_29 : decode cX11_readWord 29 = .ok (.aload_n 0, 1) := by decide +kernel
theorem dX11_readWord_30 : decode cX11_readWord 30 = .ok (.getfield 56, 3) := by decide +kernel
theorem dX11_readWord_33 : decode cX11_readWord 33 = .ok (.aload_n 0, 1) := by decide +kernel
theorem dX11_readWord_34 : decode cX11_readWord 34 = .ok (.getfield 154, 3) := by decide +kernel
theorem dX11_readWord_37 : decode cX11_readWord 37 = .ok (.iaload, 1) := by decide +kernel
theorem dX11_readWord_38 : decode cX11_readWord 38 = .ok (.i2l, 1) := by decide +kernel
theorem dX11_readWord_39 : decode cX11_readWord 39 = .ok (.ldc2_w 157, 3) := by decide +kernel
theorem dX11_readWord_42 : decode cX11_readWord 42 = .ok (.ldc2_w 159, 3) := by decide +kernel
theorem dX11_readWord_45 : decode cX11_readWord 45 = .ok (.invokestatic 127, 3) := by decide +kernel
theorem dX11_readWord_48 : decode cX11_readWord 48 = .ok (.ifCond .eq 60, 3) := by decide +kernel
theorem dX11_readWord_51 : decode cX11_readWord 51 = .ok (.aload_n 0, 1) := by decide +kernel
theorem dX11_readWord_52 : decode cX11_readWord 52 = .ok (.aload_n 0, 1) := by decide +kernel
theorem dX11_readWord_53 : decode cX11_readWord 53 = .ok (.getfield 150, 3) := by decide +kernel
theorem dX11_readWord_56 : decode cX11_readWord 56 = .ok (.ldc2_w 161, 3) := by decide +kernel
theorem dX11_readWord_59 : decode cX11_readWord 59 = .ok (.lcmp, 1) := by decide +kernel
theorem dX11_readWord_60 : decode cX11_readWord 60 = .ok (.ifCond .le 9, 3) := by decide +kernel
theorem dX11_readWord_63 : decode cX11_readWord 63 = .ok (.ldc2_w 163, 3) := by decide +kernel
theorem dX11_readWord_66 : decode cX11_readWord 66 = .ok (.goto 26, 3) := by decide +kernel
theorem dX11_readWord_69 : decode cX11_readWord 69 = .ok (.ldc2_w 165, 3) := by decide +kernel
theorem dX11_readWord_72 : decode cX11_readWord 72 = .ok (.aload_n 0, 1) := by decide +kernel
theorem dX11_readWord_73 : decode cX11_readWord 73 = .ok (.getfield 150, 3) := by decide +kernel
theorem dX11_readWord_76 : decode cX11_readWord 76 = .ok (.lmul, 1) := by decide +kernel
theorem dX11_readWord_77 : decode cX11_readWord 77 = .ok (.aload_n 0, 1) := by decide +kernel
theorem dX11_readWord_78 : decode cX11_readWord 78 = .ok (.getfield 56, 3) := by decide +kernel
theorem dX11_readWord_81 : decode cX11_readWord 81 = .ok (.aload_n 0, 1) := by decide +kernel
theorem dX11_readWord_82 : decode cX11_readWord 82 = .ok (.getfield 154, 3) := by decide +kernel
theorem dX11_readWord_85 : decode cX11_readWord 85 = .ok (.iaload, 1) := by decide +kernel
theorem dX11_readWord_86 : decode cX11_readWord 86 = .ok (.i2l, 1) := by decide +kernel
theorem dX11_readWord_87 : decode cX11_readWord 87 = .ok (.ladd, 1) := by decide +kernel
theorem dX11_readWord_88 : decode cX11_readWord 88 = .ok (.ldc2_w 167, 3) := by decide +kernel
theorem dX11_readWord_91 : decode cX11_readWord 91 = .ok (.lsub, 1) := by decide +kernel
theorem dX11_readWord_92 : decode cX11_readWord 92 = .ok (.putfield 150, 3) := by decide +kernel
theorem dX11_readWord_95 : decode cX11_readWord 95 = .ok (.aload_n 0, 1) := by decide +kernel
theorem dX11_readWord_96 : decode cX11_readWord 96 = .ok (.dup, 1) := by decide +kernel
theorem dX11_readWord_97 : decode cX11_readWord 97 = .ok (.getfield 154, 3) := by decide +kernel
theorem dX11_readWord_100 : decode cX11_readWord 100 = .ok (.iconst 1, 1) := by decide +kernel
theorem dX11_readWord_101 : decode cX11_readWord 101 = .ok (.iadd, 1) := by decide +kernel
theorem dX11_readWord_102 : decode cX11_readWord 102 = .ok (.putfield 154, 3) := by decide +kernel
theorem dX11_readWord_105 : decode cX11_readWord 105 = .ok (.goto (-87), 3) := by decide +kernel
theorem dX11_readWord_108 : decode cX11_readWord 108 = .ok (.return_, 1) := by decide +kernel
theorem dX11_code_0 : decode cX11_code 0 = .ok (.ldc2_w 165, 3) := by decide +kernel
theorem dX11_code_3 : decode cX11_code 3 = .ok (.ldc2_w 165, 3) := by decide +kernel
theorem dX11_code_6 : decode cX11_code 6 = .ok (.ldc2_w 165, 3) := by decide +kernel
theorem dX11_code_9 : decode cX11_code 9 = .ok (.iload_n 0, 1) := by decide +kernel
theorem dX11_code_10 : decode cX11_code 10 = .ok (.i2l, 1) := by decide +kernel
theorem dX11_code_11 : decode cX11_code 11 = .ok (.ldc2_w 167, 3) := by decide +kernel
theorem dX11_code_14 : decode cX11_code 14 = .ok (.lsub, 1) := by decide +kernel
theorem dX11_code_15 : decode cX11_code 15 = .ok (.lmul, 1) := by decide +kernel
theorem dX11_code_16 : decode cX11_code 16 = .ok (.iload_n 1, 1) := by decide +kernel
theorem dX11_code_17 : decode cX11_code 17 = .ok (.i2l, 1) := by decide +kernel
theorem dX11_code_18 : decode cX11_code 18 = .ok (.ladd, 1) := by decide +kernel
theorem dX11_code_19 : decode cX11_code 19 = .ok (.ldc2_w 167, 3) := by decide +kernel
theorem dX11_code_22 : decode cX11_code 22 = .ok (.lsub, 1) := by decide +kernel
theorem dX11_code_23 : decode cX11_code 23 = .ok (.lmul, 1) := by decide +kernel
theorem dX11_code_24 : decode cX11_code 24 = .ok (.iload_n 2, 1) := by decide +kernel
theorem dX11_code_25 : decode cX11_code 25 = .ok (.i2l, 1) := by decide +kernel
theorem dX11_code_26 : decode cX11_code 26 = .ok (.ladd, 1) := by decide +kernel
theorem dX11_code_27 : decode cX11_code 27 = .ok (.ldc2_w 167, 3) := by decide +kernel
theorem dX11_code_30 : decode cX11_code 30 = .ok (.lsub, 1) := by decide +kernel
theorem dX11_code_31 : decode cX11_code 31 = .ok (.lmul, 1) := by decide +kernel
theorem dX11_code_32 : decode cX11_code 32 = .ok (.iload_n 3, 1) := by decide +kernel
theorem dX11_code_33 : decode cX11_code 33 = .ok (.i2l, 1) := by decide +kernel
theorem dX11_code_34 : decode cX11_code 34 = .ok (.ladd, 1) := by decide +kernel
theorem dX11_code_35 : decode cX11_code 35 = .ok (.ldc2_w 167, 3) := by decide +kernel
theorem dX11_code_38 : decode cX11_code 38 = .ok (.lsub, 1) := by decide +kernel
theorem dX11_code_39 : decode cX11_code 39 = .ok (.lreturn, 1) := by decide +kernel
theorem dX11_longer_0 : decode cX11_longer 0 = .ok (.ldc2_w 165, 3) := by decide +kernel
theorem dX11_longer_3 : decode cX11_longer 3 = .ok (.lload_n 0, 1) := by decide +kernel
theorem dX11_longer_4 : decode cX11_longer 4 = .ok (.lmul, 1) := by decide +kernel
theorem dX11_longer_5 : decode cX11_longer 5 = .ok (.iload_n 2, 1) := by decide +kernel
theorem dX11_longer_6 : decode cX11_longer 6 = .ok (.i2l, 1) := by decide +kernel
theorem dX11_longer_7 : decode cX11_longer 7 = .ok (.ladd, 1) := by decide +kernel
theorem dX11_longer_8 : decode cX11_longer 8 = .ok (.ldc2_w 167, 3) := by decide +kernel
theorem dX11_longer_11 : decode cX11_longer 11 = .ok (.lsub, 1) := by decide +kernel
theorem dX11_longer_12 : decode cX11_longer 12 = .ok (.lreturn, 1) := by decide +kernel
theorem dX11_takeNumber_0 : decode cX11_takeNumber 0 = .ok (.aload_n 0, 1) := by decide +kernel
theorem dX11_takeNumber_1 : decode cX11_takeNumber 1 = .ok (.invokevirtual 146, 3) := by decide +kernel
theorem dX11_takeNumber_4 : decode cX11_takeNumber 4 = .ok (.istore_n 3, 1) := by decide +kernel
theorem dX11_takeNumber_5 : decode cX11_takeNumber 5 = .ok (.iload_n 3, 1) := by decide +kernel
theorem dX11_takeNumber_6 : decode cX11_takeNumber 6 = .ok (.i2l, 1) := by decide +kernel
theorem dX11_takeNumber_7 : decode cX11_takeNumber 7 = .ok (.ldc2_w 169, 3) := by decide +kernel
theorem dX11_takeNumber_10 : decode cX11_takeNumber 10 = .ok (.ldc2_w 171, 3) := by decide +kernel
theorem dX11_takeNumber_13 : decode cX11_takeNumber 13 = .ok (.invokestatic 127, 3) := by decide +kernel
theorem dX11_takeNumber_16 : decode cX11_takeNumber 16 = .ok (.ifCond .ne 13, 3) := by decide +kernel
theorem dX11_takeNumber_19 : decode cX11_takeNumber 19 = .ok (.aload_n 0, 1) := by decide +kernel
theorem dX11_takeNumber_20 : decode cX11_takeNumber 20 = .ok (.iconst 1, 1) := by decide +kernel
theorem dX11_takeNumber_21 : decode cX11_takeNumber 21 = .ok (.aload_n 0, 1) := by decide +kernel
theorem dX11_takeNumber_22 : decode cX11_takeNumber 22 = .ok (.getfield 143, 3) := by decide +kernel
theorem dX11_takeNumber_25 : decode cX11_takeNumber 25 = .ok (.invokevirtual 173, 3) := by decide +kernel
theorem dX11_takeNumber_28 : decode cX11_takeNumber 28 = .ok (.ireturn, 1) := by decide +kernel
theorem dX11_takeNumber_29 : decode cX11_takeNumber 29 = .ok (.aload_n 0, 1) := by decide +kernel
theorem dX11_takeNumber_30 : decode cX11_takeNumber 30 = .ok (.aload_n 0, 1) := by decide +kernel
theorem dX11_takeNumber_31 : decode cX11_takeNumber 31 = .ok (.getfield 143, 3) := by decide +kernel
theorem dX11_takeNumber_34 : decode cX11_takeNumber 34 = .ok (.putfield 177, 3) := by decide +kernel
theorem dX11_takeNumber_37 : decode cX11_takeNumber 37 = .ok (.aload_n 0, 1) := by decide +kernel
theorem dX11_takeNumber_38 : decode cX11_takeNumber 38 = .ok (.iconst 0, 1) := by decide +kernel
theorem dX11_takeNumber_39 : decode cX11_takeNumber 39 = .ok (.putfield 180, 3) := by decide +kernel
theorem dX11_takeNumber_42 : decode cX11_takeNumber 42 = .ok (.aload_n 0, 1) := by decide +kernel
theorem dX11_takeNumber_43 : decode cX11_takeNumber 43 = .ok (.getfield 143, 3) := by decide +kernel
theorem dX11_takeNumber_46 : decode cX11_takeNumber 46 = .ok (.aload_n 0, 1) := by decide +kernel
theorem dX11_takeNumber_47 : decode cX11_takeNumber 47 = .ok (.getfield 137, 3) := by decide +kernel
theorem dX11_takeNumber_50 : decode cX11_takeNumber 50 = .ok (.if_icmp .ge 79, 3) := by decide +kernel
theorem dX11_takeNumber_53 : decode cX11_takeNumber 53 = .ok (.aload_n 0, 1) := by decide +kernel
theorem dX11_takeNumber_54 : decode cX11_takeNumber 54 = .ok (.getfield 56, 3) := by decide +kernel
theorem dX11_takeNumber_57 : decode cX11_takeNumber 57 = .ok (.aload_n 0, 1) := by decide +kernel
theorem dX11_takeNumber_58 : decode cX11_takeNumber 58 = .ok (.getfield 143, 3) := by decide +kernel
theorem dX11_takeNumber_61 : decode cX11_takeNumber 61 = .ok (.iaload, 1) := by decide +kernel
theorem dX11_takeNumber_62 : decode cX11_takeNumber 62 = .ok (.i2l, 1) := by decide +kernel
theorem dX11_takeNumber_63 : decode cX11_takeNumber 63 = .ok (.ldc2_w 169, 3) := by decide +kernel
theorem dX11_takeNumber_66 : decode cX11_takeNumber 66 = .ok (.ldc2_w 171, 3) := by decide +kernel
theorem dX11_takeNumber_69 : decode cX11_takeNumber 69 = .ok (.invokestatic 127, 3) := by decide +kernel
theorem dX11_takeNumber_72 : decode cX11_takeNumber 72 = .ok (.ifCond .eq 57, 3) := by decide +kernel
theorem dX11_takeNumber_75 : decode cX11_takeNumber 75 = .ok (.aload_n 0, 1) := by decide +kernel
theorem dX11_takeNumber_76 : decode cX11_takeNumber 76 = .ok (.aload_n 0, 1) := by decide +kernel
theorem dX11_takeNumber_77 : decode cX11_takeNumber 77 = .ok (.getfield 180, 3) := by decide +kernel
theorem dX11_takeNumber_80 : decode cX11_takeNumber 80 = .ok (.sipush 10000, 3) := by decide +kernel
theorem dX11_takeNumber_83 : decode cX11_takeNumber 83 = .ok (.if_icmp .le 10, 3) := by decide +kernel
theorem dX11_takeNumber_86 : decode cX11_takeNumber 86 = .ok (.aload_n 0, 1) := by decide +kernel
theorem dX11_takeNumber_87 : decode cX11_takeNumber 87 = .ok (.getfield 180, 3) := by decide +kernel
theorem dX11_takeNumber_90 : decode cX11_takeNumber 90 = .ok (.goto 23, 3) := by decide +kernel
theorem dX11_takeNumber_93 : decode cX11_takeNumber 93 = .ok (.bipush 10, 2) := by decide +kernel
theorem dX11_takeNumber_95 : decode cX11_takeNumber 95 = .ok (.aload_n 0, 1) := by decide +kernel
theorem dX11_takeNumber_96 : decode cX11_takeNumber 96 = .ok (.getfield 180, 3) := by decide +kernel
theorem dX11_takeNumber_99 : decode cX11_takeNumber 99 = .ok (.imul, 1) := by decide +kernel
theorem dX11_takeNumber_100 : decode cX11_takeNumber 100 = .ok (.aload_n 0, 1) := by decide +kernel
theorem dX11_takeNumber_101 : decode cX11_takeNumber 101 = .ok (.getfield 56, 3) := by decide +kernel
theorem dX11_takeNumber_104 : decode cX11_takeNumber 104 = .ok (.aload_n 0, 1) := by decide +kernel
theorem dX11_takeNumber_105 : decode cX11_takeNumber 105 = .ok (.getfield 143, 3) := by decide +kernel
theorem dX11_takeNumber_108 : decode cX11_takeNumber 108 = .ok (.iaload, 1) := by decide +kernel
theorem dX11_takeNumber_109 : decode cX11_takeNumber 109 = .ok (.iadd, 1) := by decide +kernel
theorem dX11_takeNumber_110 : decode cX11_takeNumber 110 = .ok (.bipush 48, 2) := by decide +kernel
theorem dX11_takeNumber_112 : decode cX11_takeNumber 112 = .ok (.isub, 1) := by decide +kernel
theorem dX11_takeNumber_113 : decode cX11_takeNumber 113 = .ok (.putfield 180, 3) := by decide +kernel
theorem dX11_takeNumber_116 : decode cX11_takeNumber 116 = .ok (.aload_n 0, 1) := by decide +kernel
theorem dX11_takeNumber_117 : decode cX11_takeNumber 117 = .ok (.dup, 1) := by decide +kernel
theorem dX11_takeNumber_118 : decode cX11_takeNumber 118 = .ok (.getfield 143, 3) := by decide +kernel
theorem dX11_takeNumber_121 : decode cX11_takeNumber 121 = .ok (.iconst 1, 1) := by decide +kernel
theorem dX11_takeNumber_122 : decode cX11_takeNumber 122 = .ok (.iadd, 1) := by decide +kernel
theorem dX11_takeNumber_123 : decode cX11_takeNumber 123 = .ok (.putfield 143, 3) := by decide +kernel
theorem dX11_takeNumber_126 : decode cX11_takeNumber 126 = .ok (.goto (-84), 3) := by decide +kernel
theorem dX11_takeNumber_129 : decode cX11_takeNumber 129 = .ok (.aload_n 0, 1) := by decide +kernel
theorem dX11_takeNumber_130 : decode cX11_takeNumber 130 = .ok (.getfield 143, 3) := by decide +kernel
theorem dX11_takeNumber_133 : decode cX11_takeNumber 133 = .ok (.aload_n 0, 1) := by decide +kernel
theorem dX11_takeNumber_134 : decode cX11_takeNumber 134 = .ok (.getfield 177, 3) := by decide +kernel
theorem dX11_takeNumber_137 : decode cX11_takeNumber 137 = .ok (.isub, 1) := by decide +kernel
theorem dX11_takeNumber_138 : decode cX11_takeNumber 138 = .ok (.iconst 3, 1) := by decide +kernel
theorem dX11_takeNumber_139 : decode cX11_takeNumber 139 = .ok (.if_icmp .gt 18, 3) := by decide +kernel
theorem dX11_takeNumber_142 : decode cX11_takeNumber 142 = .ok (.aload_n 0, 1) := by decide +kernel
theorem dX11_takeNumber_143 : decode cX11_takeNumber 143 = .ok (.getfield 180, 3) := by decide +kernel
theorem dX11_takeNumber_146 : decode cX11_takeNumber 146 = .ok (.i2l, 1) := by decide +kernel
theorem dX11_takeNumber_147 : decode cX11_takeNumber 147 = .ok (.iload_n 1, 1) := by decide +kernel
theorem dX11_takeNumber_148 : decode cX11_takeNumber 148 = .ok (.i2l, 1) := by decide +kernel
theorem dX11_takeNumber_149 : decode cX11_takeNumber 149 = .ok (.iload_n 2, 1) := by decide +kernel
theorem dX11_takeNumber_150 : decode cX11_takeNumber 150 = .ok (.i2l, 1) := by decide +kernel
theorem dX11_takeNumber_151 : decode cX11_takeNumber 151 = .ok (.invokestatic 127, 3) := by decide +kernel
theorem dX11_takeNumber_154 : decode cX11_takeNumber 154 = .ok (.ifCond .ne 15, 3) := by decide +kernel
theorem dX11_takeNumber_157 : decode cX11_takeNumber 157 = .ok (.aload_n 0, 1) := by decide +kernel
theorem dX11_takeNumber_158 : decode cX11_takeNumber 158 = .ok (.iconst 2, 1) := by decide +kernel
theorem dX11_takeNumber_159 : decode cX11_takeNumber 159 = .ok (.aload_n 0, 1) := by decide +kernel
theorem dX11_takeNumber_160 : decode cX11_takeNumber 160 = .ok (.getfield 177, 3) := by decide +kernel
theorem dX11_takeNumber_163 : decode cX11_takeNumber 163 = .ok (.invokevirtual 173, 3) := by decide +kernel
theorem dX11_takeNumber_166 : decode cX11_takeNumber 166 = .ok (.goto 4, 3) := by decide +kernel
theorem dX11_takeNumber_169 : decode cX11_takeNumber 169 = .ok (.iconst 0, 1) := by decide +kernel
theorem dX11_takeNumber_170 : decode cX11_takeNumber 170 = .ok (.ireturn, 1) := by decide +kernel
theorem dX11_takeStop_0 : decode cX11_takeStop 0 = .ok (.aload_n 0, 1) := by decide +kernel
theorem dX11_takeStop_1 : decode cX11_takeStop 1 = .ok (.invokevirtual 146, 3) := by decide +kernel
theorem dX11_takeStop_4 : decode cX11_takeStop 4 = .ok (.bipush 59, 2) := by decide +kernel
theorem dX11_takeStop_6 : decode cX11_takeStop 6 = .ok (.if_icmp .eq 13, 3) := by decide +kernel
theorem dX11_takeStop_9 : decode cX11_takeStop 9 = .ok (.aload_n 0, 1) := by decide +kernel
theorem dX11_takeStop_10 : decode cX11_takeStop 10 = .ok (.iconst 1, 1) := by decide +kernel
theorem dX11_takeStop_11 : decode cX11_takeStop 11 = .ok (.aload_n 0, 1) := by decide +kernel
theorem dX11_takeStop_12 : decode cX11_takeStop 12 = .ok (.getfield 143, 3) := by decide +kernel
theorem dX11_takeStop_15 : decode cX11_takeStop 15 = .ok (.invokevirtual 173, 3) := by decide +kernel
theorem dX11_takeStop_18 : decode cX11_takeStop 18 = .ok (.ireturn, 1) := by decide +kernel
theorem dX11_takeStop_19 : decode cX11_takeStop 19 = .ok (.aload_n 0, 1) := by decide +kernel
theorem dX11_takeStop_20 : decode cX11_takeStop 20 = .ok (.dup, 1) := by decide +kernel
theorem dX11_takeStop_21 : decode cX11_takeStop 21 = .ok (.getfield 143, 3) := by decide +kernel
theorem dX11_takeStop_24 : decode cX11_takeStop 24 = .ok (.iconst 1, 1) := by decide +kernel
theorem dX11_takeStop_25 : decode cX11_takeStop 25 = .ok (.iadd, 1) := by decide +kernel
theorem dX11_takeStop_26 : decode cX11_takeStop 26 = .ok (.putfield 143, 3) := by decide +kernel
theorem dX11_takeStop_29 : decode cX11_takeStop 29 = .ok (.iconst 0, 1) := by decide +kernel
theorem dX11_takeStop_30 : decode cX11_takeStop 30 = .ok (.ireturn, 1) := by decide +kernel
theorem dX11_takeSuit_0 : decode cX11_takeSuit 0 = .ok (.aload_n 0, 1) := by decide +kernel
theorem dX11_takeSuit_1 : decode cX11_takeSuit 1 = .ok (.iconst 1, 1) := by decide +kernel
theorem dX11_takeSuit_2 : decode cX11_takeSuit 2 = .ok (.sipush 999, 3) := by decide +kernel
theorem dX11_takeSuit_5 : decode cX11_takeSuit 5 = .ok (.invokevirtual 183, 3) := by decide +kernel
theorem dX11_takeSuit_8 : decode cX11_takeSuit 8 = .ok (.istore_n 1, 1) := by decide +kernel
theorem dX11_takeSuit_9 : decode cX11_takeSuit 9 = .ok (.aload_n 0, 1) := by decide +kernel
theorem dX11_takeSuit_10 : decode cX11_takeSuit 10 = .ok (.getfield 63, 3) := by decide +kernel
theorem dX11_takeSuit_13 : decode cX11_takeSuit 13 = .ok (.aload_n 0, 1) := by decide +kernel
theorem dX11_takeSuit_14 : decode cX11_takeSuit 14 = .ok (.getfield 186, 3) := by decide +kernel
theorem dX11_takeSuit_17 : decode cX11_takeSuit 17 = .ok (.aload_n 0, 1) := by decide +kernel
theorem dX11_takeSuit_18 : decode cX11_takeSuit 18 = .ok (.getfield 180, 3) := by decide +kernel
theorem dX11_takeSuit_21 : decode cX11_takeSuit 21 = .ok (.iastore, 1) := by decide +kernel
theorem dX11_takeSuit_22 : decode cX11_takeSuit 22 = .ok (.iload_n 1, 1) := by decide +kernel
theorem dX11_takeSuit_23 : decode cX11_takeSuit 23 = .ok (.ifCond .le 7, 3) := by decide +kernel
theorem dX11_takeSuit_26 : decode cX11_takeSuit 26 = .ok (.iload_n 1, 1) := by decide +kernel
theorem dX11_takeSuit_27 : decode cX11_takeSuit 27 = .ok (.goto 11, 3) := by decide +kernel
theorem dX11_takeSuit_30 : decode cX11_takeSuit 30 = .ok (.aload_n 0, 1) := by decide +kernel
theorem dX11_takeSuit_31 : decode cX11_takeSuit 31 = .ok (.iconst 1, 1) := by decide +kernel
theorem dX11_takeSuit_32 : decode cX11_takeSuit 32 = .ok (.sipush 399, 3) := by decide +kernel
theorem dX11_takeSuit_35 : decode cX11_takeSuit 35 = .ok (.invokevirtual 183, 3) := by decide +kernel
theorem dX11_takeSuit_38 : decode cX11_takeSuit 38 = .ok (.istore_n 1, 1) := by decide +kernel
theorem dX11_takeSuit_39 : decode cX11_takeSuit 39 = .ok (.aload_n 0, 1) := by decide +kernel
theorem dX11_takeSuit_40 : decode cX11_takeSuit 40 = .ok (.getfield 66, 3) := by decide +kernel
theorem dX11_takeSuit_43 : decode cX11_takeSuit 43 = .ok (.aload_n 0, 1) := by decide +kernel
theorem dX11_takeSuit_44 : decode cX11_takeSuit 44 = .ok (.getfield 186, 3) := by decide +kernel
theorem dX11_takeSuit_47 : decode cX11_takeSuit 47 = .ok (.aload_n 0, 1) := by decide +kernel
theorem dX11_takeSuit_48 : decode cX11_takeSuit 48 = .ok (.getfield 180, 3) := by decide +kernel
theorem dX11_takeSuit_51 : decode cX11_takeSuit 51 = .ok (.iastore, 1) := by decide +kernel
theorem dX11_takeSuit_52 : decode cX11_takeSuit 52 = .ok (.aload_n 0, 1) := by decide +kernel
theorem dX11_takeSuit_53 : decode cX11_takeSuit 53 = .ok (.getfield 69, 3) := by decide +kernel
theorem dX11_takeSuit_56 : decode cX11_takeSuit 56 = .ok (.aload_n 0, 1) := by decide +kernel
theorem dX11_takeSuit_57 : decode cX11_takeSuit 57 = .ok (.getfield 186, 3) := by decide +kernel
theorem dX11_takeSuit_60 : decode cX11_takeSuit 60 = .ok (.iconst (-1), 1) := by decide +kernel
theorem dX11_takeSuit_61 : decode cX11_takeSuit 61 = .ok (.iastore, 1) := by decide +kernel
theorem dX11_takeSuit_62 : decode cX11_takeSuit 62 = .ok (.iload_n 1, 1) := by decide +kernel
theorem dX11_takeSuit_63 : decode cX11_takeSuit 63 = .ok (.ifCond .ne 51, 3) := by decide +kernel
theorem dX11_takeSuit_66 : decode cX11_takeSuit 66 = .ok (.aload_n 0, 1) := by decide +kernel
theorem dX11_takeSuit_67 : decode cX11_takeSuit 67 = .ok (.invokevirtual 189, 3) := by decide +kernel
theorem dX11_takeSuit_70 : decode cX11_takeSuit 70 = .ok (.aload_n 0, 1) := by decide +kernel
theorem dX11_takeSuit_71 : decode cX11_takeSuit 71 = .ok (.getfield 150, 3) := by decide +kernel
theorem dX11_takeSuit_74 : decode cX11_takeSuit 74 = .ok (.ldc2_w 192, 3) := by decide +kernel
theorem dX11_takeSuit_77 : decode cX11_takeSuit 77 = .ok (.lcmp, 1) := by decide +kernel
theorem dX11_takeSuit_78 : decode cX11_takeSuit 78 = .ok (.ifCond .ne 36, 3) := by decide +kernel
theorem dX11_takeSuit_81 : decode cX11_takeSuit 81 = .ok (.aload_n 0, 1) := by decide +kernel
theorem dX11_takeSuit_82 : decode cX11_takeSuit 82 = .ok (.aload_n 0, 1) := by decide +kernel
theorem dX11_takeSuit_83 : decode cX11_takeSuit 83 = .ok (.getfield 154, 3) := by decide +kernel
theorem dX11_takeSuit_86 : decode cX11_takeSuit 86 = .ok (.putfield 143, 3) := by decide +kernel
theorem dX11_takeSuit_89 : decode cX11_takeSuit 89 = .ok (.aload_n 0, 1) := by decide +kernel
theorem dX11_takeSuit_90 : decode cX11_takeSuit 90 = .ok (.iconst 0, 1) := by decide +kernel
theorem dX11_takeSuit_91 : decode cX11_takeSuit 91 = .ok (.aload_n 0, 1) := by decide +kernel
theorem dX11_takeSuit_92 : decode cX11_takeSuit 92 = .ok (.getfield 186, 3) := by decide +kernel
theorem dX11_takeSuit_95 : decode cX11_takeSuit 95 = .ok (.iconst 1, 1) := by decide +kernel
theorem dX11_takeSuit_96 : decode cX11_takeSuit 96 = .ok (.isub, 1) := by decide +kernel
theorem dX11_takeSuit_97 : decode cX11_takeSuit 97 = .ok (.invokevirtual 183, 3) := by decide +kernel
theorem dX11_takeSuit_100 : decode cX11_takeSuit 100 = .ok (.istore_n 1, 1) := by decide +kernel
theorem dX11_takeSuit_101 : decode cX11_takeSuit 101 = .ok (.aload_n 0, 1) := by decide +kernel
theorem dX11_takeSuit_102 : decode cX11_takeSuit 102 = .ok (.getfield 69, 3) := by decide +kernel
theorem dX11_takeSuit_105 : decode cX11_takeSuit 105 = .ok (.aload_n 0, 1) := by decide +kernel
theorem dX11_takeSuit_106 : decode cX11_takeSuit 106 = .ok (.getfield 186, 3) := by decide +kernel
theorem dX11_takeSuit_109 : decode cX11_takeSuit 109 = .ok (.aload_n 0, 1) := by decide +kernel
theorem dX11_takeSuit_110 : decode cX11_takeSuit 110 = .ok (.getfield 180, 3) := by decide +kernel
theorem dX11_takeSuit_113 : decode cX11_takeSuit 113 = .ok (.iastore, 1) := by decide +kernel
theorem dX11_takeSuit_114 : decode cX11_takeSuit 114 = .ok (.aload_n 0, 1) := by decide +kernel
theorem dX11_takeSuit_115 : decode cX11_takeSuit 115 = .ok (.dup, 1) := by decide +kernel
theorem dX11_takeSuit_116 : decode cX11_takeSuit 116 = .ok (.getfield 186, 3) := by decide +kernel
theorem dX11_takeSuit_119 : decode cX11_takeSuit 119 = .ok (.iconst 1, 1) := by decide +kernel
theorem dX11_takeSuit_120 : decode cX11_takeSuit 120 = .ok (.iadd, 1) := by decide +kernel
theorem dX11_takeSuit_121 : decode cX11_takeSuit 121 = .ok (.putfield 186, 3) := by decide +kernel
theorem dX11_takeSuit_124 : decode cX11_takeSuit 124 = .ok (.iload_n 1, 1) := by decide +kernel
theorem dX11_takeSuit_125 : decode cX11_takeSuit 125 = .ok (.ireturn, 1) := by decide +kernel
theorem dX11_takeKind_0 : decode cX11_takeKind 0 = .ok (.aload_n 0, 1) := by decide +kernel
theorem dX11_takeKind_1 : decode cX11_takeKind 1 = .ok (.invokevirtual 189, 3) := by decide +kernel
theorem dX11_takeKind_4 : decode cX11_takeKind 4 = .ok (.aload_n 0, 1) := by decide +kernel
theorem dX11_takeKind_5 : decode cX11_takeKind 5 = .ok (.getfield 150, 3) := by decide +kernel
theorem dX11_takeKind_8 : decode cX11_takeKind 8 = .ok (.bipush 115, 2) := by decide +kernel
theorem dX11_takeKind_10 : decode cX11_takeKind 10 = .ok (.bipush 119, 2) := by decide +kernel
theorem dX11_takeKind_12 : decode cX11_takeKind 12 = .ok (.bipush 111, 2) := by decide +kernel
theorem dX11_takeKind_14 : decode cX11_takeKind 14 = .ok (.bipush 114, 2) := by decide +kernel
theorem dX11_takeKind_16 : decode cX11_takeKind 16 = .ok (.invokestatic 194, 3) := by decide +kernel
theorem dX11_takeKind_19 : decode cX11_takeKind 19 = .ok (.bipush 110, 2) := by decide +kernel
theorem dX11_takeKind_21 : decode cX11_takeKind 21 = .ok (.invokestatic 198, 3) := by decide +kernel
theorem dX11_takeKind_24 : decode cX11_takeKind 24 = .ok (.lcmp, 1) := by decide +kernel
theorem dX11_takeKind_25 : decode cX11_takeKind 25 = .ok (.ifCond .ne 7, 3) := by decide +kernel
theorem dX11_takeKind_28 : decode cX11_takeKind 28 = .ok (.iconst 0, 1) := by decide +kernel
theorem dX11_takeKind_29 : decode cX11_takeKind 29 = .ok (.goto 103, 3) := by decide +kernel
theorem dX11_takeKind_32 : decode cX11_takeKind 32 = .ok (.aload_n 0, 1) := by decide +kernel
theorem dX11_takeKind_33 : decode cX11_takeKind 33 = .ok (.getfield 150, 3) := by decide +kernel
theorem dX11_takeKind_36 : decode cX11_takeKind 36 = .ok (.bipush 99, 2) := by decide +kernel
theorem dX11_takeKind_38 : decode cX11_takeKind 38 = .ok (.bipush 111, 2) := by decide +kernel
theorem dX11_takeKind_40 : decode cX11_takeKind 40 = .ok (.bipush 112, 2) := by decide +kernel
theorem dX11_takeKind_42 : decode cX11_takeKind 42 = .ok (.bipush 105, 2) := by decide +kernel
theorem dX11_takeKind_44 : decode cX11_takeKind 44 = .ok (.invokestatic 194, 3) := by decide +kernel
theorem dX11_takeKind_47 : decode cX11_takeKind 47 = .ok (.bipush 101, 2) := by decide +kernel
theorem dX11_takeKind_49 : decode cX11_takeKind 49 = .ok (.invokestatic 198, 3) := by decide +kernel
theorem dX11_takeKind_52 : decode cX11_takeKind 52 = .ok (.bipush 100, 2) := by decide +kernel
theorem dX11_takeKind_54 : decode cX11_takeKind 54 = .ok (.invokestatic 198, 3) := by decide +kernel
theorem dX11_takeKind_57 : decode cX11_takeKind 57 = .ok (.lcmp, 1) := by decide +kernel
theorem dX11_takeKind_58 : decode cX11_takeKind 58 = .ok (.ifCond .ne 7, 3) := by decide +kernel
theorem dX11_takeKind_61 : decode cX11_takeKind 61 = .ok (.iconst 1, 1) := by decide +kernel
theorem dX11_takeKind_62 : decode cX11_takeKind 62 = .ok (.goto 70, 3) := by decide +kernel
theorem dX11_takeKind_65 : decode cX11_takeKind 65 = .ok (.aload_n 0, 1) := by decide +kernel
theorem dX11_takeKind_66 : decode cX11_takeKind 66 = .ok (.getfield 150, 3) := by decide +kernel
theorem dX11_takeKind_69 : decode cX11_takeKind 69 = .ok (.bipush 115, 2) := by decide +kernel
theorem dX11_takeKind_71 : decode cX11_takeKind 71 = .ok (.bipush 104, 2) := by decide +kernel
theorem dX11_takeKind_73 : decode cX11_takeKind 73 = .ok (.bipush 111, 2) := by decide +kernel
theorem dX11_takeKind_75 : decode cX11_takeKind 75 = .ok (.bipush 119, 2) := by decide +kernel
theorem dX11_takeKind_77 : decode cX11_takeKind 77 = .ok (.invokestatic 194, 3) := by decide +kernel
theorem dX11_takeKind_80 : decode cX11_takeKind 80 = .ok (.bipush 110, 2) := by decide +kernel
theorem dX11_takeKind_82 : decode cX11_takeKind 82 = .ok (.invokestatic 198, 3) := by decide +kernel
theorem dX11_takeKind_85 : decode cX11_takeKind 85 = .ok (.lcmp, 1) := by decide +kernel
theorem dX11_takeKind_86 : decode cX11_takeKind 86 = .ok (.ifCond .ne 7, 3) := by decide +kernel
theorem dX11_takeKind_89 : decode cX11_takeKind 89 = .ok (.iconst 2, 1) := by decide +kernel
theorem dX11_takeKind_90 : decode cX11_takeKind 90 = .ok (.goto 42, 3) := by decide +kernel
theorem dX11_takeKind_93 : decode cX11_takeKind 93 = .ok (.aload_n 0, 1) := by decide +kernel
theorem dX11_takeKind_94 : decode cX11_takeKind 94 = .ok (.getfield 150, 3) := by decide +kernel
theorem dX11_takeKind_97 : decode cX11_takeKind 97 = .ok (.bipush 97, 2) := by decide +kernel
theorem dX11_takeKind_99 : decode cX11_takeKind 99 = .ok (.bipush 103, 2) := by decide +kernel
theorem dX11_takeKind_101 : decode cX11_takeKind 101 = .ok (.bipush 97, 2) := by decide +kernel
theorem dX11_takeKind_103 : decode cX11_takeKind 103 = .ok (.bipush 105, 2) := by decide +kernel
theorem dX11_takeKind_105 : decode cX11_takeKind 105 = .ok (.invokestatic 194, 3) := by decide +kernel
theorem dX11_takeKind_108 : decode cX11_takeKind 108 = .ok (.bipush 110, 2) := by decide +kernel
theorem dX11_takeKind_110 : decode cX11_takeKind 110 = .ok (.invokestatic 198, 3) := by decide +kernel
theorem dX11_takeKind_113 : decode cX11_takeKind 113 = .ok (.bipush 115, 2) := by decide +kernel
theorem dX11_takeKind_115 : decode cX11_takeKind 115 = .ok (.invokestatic 198, 3) := by decide +kernel
theorem dX11_takeKind_118 : decode cX11_takeKind 118 = .ok (.bipush 116, 2) := by decide +kernel
theorem dX11_takeKind_120 : decode cX11_takeKind 120 = .ok (.invokestatic 198, 3) := by decide +kernel
theorem dX11_takeKind_123 : decode cX11_takeKind 123 = .ok (.lcmp, 1) := by decide +kernel
theorem dX11_takeKind_124 : decode cX11_takeKind 124 = .ok (.ifCond .ne 7, 3) := by decide +kernel
theorem dX11_takeKind_127 : decode cX11_takeKind 127 = .ok (.iconst 3, 1) := by decide +kernel
theorem dX11_takeKind_128 : decode cX11_takeKind 128 = .ok (.goto 4, 3) := by decide +kernel
theorem dX11_takeKind_131 : decode cX11_takeKind 131 = .ok (.iconst (-1), 1) := by decide +kernel
theorem dX11_takeKind_132 : decode cX11_takeKind 132 = .ok (.istore_n 1, 1) := by decide +kernel
theorem dX11_takeKind_133 : decode cX11_takeKind 133 = .ok (.iload_n 1, 1) := by decide +kernel
theorem dX11_takeKind_134 : decode cX11_takeKind 134 = .ok (.ifCond .ge 13, 3) := by decide +kernel
theorem dX11_takeKind_137 : decode cX11_takeKind 137 = .ok (.aload_n 0, 1) := by decide +kernel
theorem dX11_takeKind_138 : decode cX11_takeKind 138 = .ok (.iconst 1, 1) := by decide +kernel
theorem dX11_takeKind_139 : decode cX11_takeKind 139 = .ok (.aload_n 0, 1) := by decide +kernel
theorem dX11_takeKind_140 : decode cX11_takeKind 140 = .ok (.getfield 143, 3) := by decide +kernel
theorem dX11_takeKind_143 : decode cX11_takeKind 143 = .ok (.invokevirtual 173, 3) := by decide +kernel
theorem dX11_takeKind_146 : decode cX11_takeKind 146 = .ok (.ireturn, 1) := by decide +kernel
theorem dX11_takeKind_147 : decode cX11_takeKind 147 = .ok (.aload_n 0, 1) := by decide +kernel
theorem dX11_takeKind_148 : decode cX11_takeKind 148 = .ok (.getfield 78, 3) := by decide +kernel
theorem dX11_takeKind_151 : decode cX11_takeKind 151 = .ok (.aload_n 0, 1) := by decide +kernel
theorem dX11_takeKind_152 : decode cX11_takeKind 152 = .ok (.getfield 202, 3) := by decide +kernel
theorem dX11_takeKind_155 : decode cX11_takeKind 155 = .ok (.iload_n 1, 1) := by decide +kernel
theorem dX11_takeKind_156 : decode cX11_takeKind 156 = .ok (.iastore, 1) := by decide +kernel
theorem dX11_takeKind_157 : decode cX11_takeKind 157 = .ok (.aload_n 0, 1) := by decide +kernel
theorem dX11_takeKind_158 : decode cX11_takeKind 158 = .ok (.aload_n 0, 1) := by decide +kernel
theorem dX11_takeKind_159 : decode cX11_takeKind 159 = .ok (.getfield 154, 3) := by decide +kernel
theorem dX11_takeKind_162 : decode cX11_takeKind 162 = .ok (.putfield 143, 3) := by decide +kernel
theorem dX11_takeKind_165 : decode cX11_takeKind 165 = .ok (.iconst 0, 1) := by decide +kernel
theorem dX11_takeKind_166 : decode cX11_takeKind 166 = .ok (.ireturn, 1) := by decide +kernel
theorem dX11_takeWitness_0 : decode cX11_takeWitness 0 = .ok (.aload_n 0, 1) := by decide +kernel
theorem dX11_takeWitness_1 : decode cX11_takeWitness 1 = .ok (.iconst 0, 1) := by decide +kernel
theorem dX11_takeWitness_2 : decode cX11_takeWitness 2 = .ok (.aload_n 0, 1) := by decide +kernel
theorem dX11_takeWitness_3 : decode cX11_takeWitness 3 = .ok (.getfield 186, 3) := by decide +kernel
theorem dX11_takeWitness_6 : decode cX11_takeWitness 6 = .ok (.iconst 1, 1) := by decide +kernel
theorem dX11_takeWitness_7 : decode cX11_takeWitness 7 = .ok (.isub, 1) := by decide +kernel
theorem dX11_takeWitness_8 : decode cX11_takeWitness 8 = .ok (.invokevirtual 183, 3) := by decide +kernel
theorem dX11_takeWitness_11 : decode cX11_takeWitness 11 = .ok (.istore_n 1, 1) := by decide +kernel
theorem dX11_takeWitness_12 : decode cX11_takeWitness 12 = .ok (.iload_n 1, 1) := by decide +kernel
theorem dX11_takeWitness_13 : decode cX11_takeWitness 13 = .ok (.ifCond .le 5, 3) := by decide +kernel
theorem dX11_takeWitness_16 : decode cX11_takeWitness 16 = .ok (.iload_n 1, 1) := by decide +kernel
theorem dX11_takeWitness_17 : decode cX11_takeWitness 17 = .ok (.ireturn, 1) := by decide +kernel
theorem dX11_takeWitness_18 : decode cX11_takeWitness 18 = .ok (.iconst 0, 1) := by decide +kernel
theorem dX11_takeWitness_19 : decode cX11_takeWitness 19 = .ok (.istore_n 2, 1) := by decide +kernel
theorem dX11_takeWitness_20 : decode cX11_takeWitness 20 = .ok (.iconst 0, 1) := by decide +kernel
theorem dX11_takeWitness_21 : decode cX11_takeWitness 21 = .ok (.istore_n 3, 1) := by decide +kernel
theorem dX11_takeWitness_22 : decode cX11_takeWitness 22 = .ok (.iload_n 3, 1) := by decide +kernel
theorem dX11_takeWitness_23 : decode cX11_takeWitness 23 = .ok (.aload_n 0, 1) := by decide +kernel
theorem dX11_takeWitness_24 : decode cX11_takeWitness 24 = .ok (.getfield 202, 3) := by decide +kernel
theorem dX11_takeWitness_27 : decode cX11_takeWitness 27 = .ok (.if_icmp .ge 30, 3) := by decide +kernel
theorem dX11_takeWitness_30 : decode cX11_takeWitness 30 = .ok (.iload_n 2, 1) := by decide +kernel
theorem dX11_takeWitness_31 : decode cX11_takeWitness 31 = .ok (.aload_n 0, 1) := by decide +kernel
theorem dX11_takeWitness_32 : decode cX11_takeWitness 32 = .ok (.getfield 72, 3) := by decide +kernel
theorem dX11_takeWitness_35 : decode cX11_takeWitness 35 = .ok (.iload_n 3, 1) := by decide +kernel
theorem dX11_takeWitness_36 : decode cX11_takeWitness 36 = .ok (.iaload, 1) := by decide +kernel
theorem dX11_takeWitness_37 : decode cX11_takeWitness 37 = .ok (.aload_n 0, 1) := by decide +kernel
theorem dX11_takeWitness_38 : decode cX11_takeWitness 38 = .ok (.getfield 180, 3) := by decide +kernel
theorem dX11_takeWitness_41 : decode cX11_takeWitness 41 = .ok (.if_icmp .ne 7, 3) := by decide +kernel
theorem dX11_takeWitness_44 : decode cX11_takeWitness 44 = .ok (.iconst 1, 1) := by decide +kernel
theorem dX11_takeWitness_45 : decode cX11_takeWitness 45 = .ok (.goto 4, 3) := by decide +kernel
theorem dX11_takeWitness_48 : decode cX11_takeWitness 48 = .ok (.iconst 0, 1) := by decide +kernel
theorem dX11_takeWitness_49 : decode cX11_takeWitness 49 = .ok (.iadd, 1) := by decide +kernel
theorem dX11_takeWitness_50 : decode cX11_takeWitness 50 = .ok (.istore_n 2, 1) := by decide +kernel
theorem dX11_takeWitness_51 : decode cX11_takeWitness 51 = .ok (.iinc 3 1, 3) := by decide +kernel
theorem dX11_takeWitness_54 : decode cX11_takeWitness 54 = .ok (.goto (-32), 3) := by decide +kernel
theorem dX11_takeWitness_57 : decode cX11_takeWitness 57 = .ok (.iload_n 2, 1) := by decide +kernel
theorem dX11_takeWitness_58 : decode cX11_takeWitness 58 = .ok (.bipush 6, 2) := by decide +kernel
theorem dX11_takeWitness_60 : decode cX11_takeWitness 60 = .ok (.if_icmp .ne 13, 3) := by decide +kernel
theorem dX11_takeWitness_63 : decode cX11_takeWitness 63 = .ok (.aload_n 0, 1) := by decide +kernel
theorem dX11_takeWitness_64 : decode cX11_takeWitness 64 = .ok (.iconst 4, 1) := by decide +kernel
theorem dX11_takeWitness_65 : decode cX11_takeWitness 65 = .ok (.aload_n 0, 1) := by decide +kernel
theorem dX11_takeWitness_66 : decode cX11_takeWitness 66 = .ok (.getfield 177, 3) := by decide +kernel
theorem dX11_takeWitness_69 : decode cX11_takeWitness 69 = .ok (.invokevirtual 173, 3) := by decide +kernel
theorem dX11_takeWitness_72 : decode cX11_takeWitness 72 = .ok (.ireturn, 1) := by decide +kernel
theorem dX11_takeWitness_73 : decode cX11_takeWitness 73 = .ok (.aload_n 0, 1) := by decide +kernel
theorem dX11_takeWitness_74 : decode cX11_takeWitness 74 = .ok (.getfield 72, 3) := by decide +kernel
theorem dX11_takeWitness_77 : decode cX11_takeWitness 77 = .ok (.aload_n 0, 1) := by decide +kernel
theorem dX11_takeWitness_78 : decode cX11_takeWitness 78 = .ok (.getfield 202, 3) := by decide +kernel
theorem dX11_takeWitness_81 : decode cX11_takeWitness 81 = .ok (.aload_n 0, 1) := by decide +kernel
theorem dX11_takeWitness_82 : decode cX11_takeWitness 82 = .ok (.getfield 180, 3) := by decide +kernel
theorem dX11_takeWitness_85 : decode cX11_takeWitness 85 = .ok (.iastore, 1) := by decide +kernel
theorem dX11_takeWitness_86 : decode cX11_takeWitness 86 = .ok (.aload_n 0, 1) := by decide +kernel
theorem dX11_takeWitness_87 : decode cX11_takeWitness 87 = .ok (.iconst 1, 1) := by decide +kernel
theorem dX11_takeWitness_88 : decode cX11_takeWitness 88 = .ok (.bipush 99, 2) := by decide +kernel
theorem dX11_takeWitness_90 : decode cX11_takeWitness 90 = .ok (.invokevirtual 183, 3) := by decide +kernel
theorem dX11_takeWitness_93 : decode cX11_takeWitness 93 = .ok (.istore_n 1, 1) := by decide +kernel
theorem dX11_takeWitness_94 : decode cX11_takeWitness 94 = .ok (.aload_n 0, 1) := by decide +kernel
theorem dX11_takeWitness_95 : decode cX11_takeWitness 95 = .ok (.getfield 75, 3) := by decide +kernel
theorem dX11_takeWitness_98 : decode cX11_takeWitness 98 = .ok (.aload_n 0, 1) := by decide +kernel
theorem dX11_takeWitness_99 : decode cX11_takeWitness 99 = .ok (.getfield 202, 3) := by decide +kernel
theorem dX11_takeWitness_102 : decode cX11_takeWitness 102 = .ok (.aload_n 0, 1) := by decide +kernel
theorem dX11_takeWitness_103 : decode cX11_takeWitness 103 = .ok (.getfield 180, 3) := by decide +kernel
theorem dX11_takeWitness_106 : decode cX11_takeWitness 106 = .ok (.iastore, 1) := by decide +kernel
theorem dX11_takeWitness_107 : decode cX11_takeWitness 107 = .ok (.iload_n 1, 1) := by decide +kernel
theorem dX11_takeWitness_108 : decode cX11_takeWitness 108 = .ok (.ifCond .le 7, 3) := by decide +kernel
theorem dX11_takeWitness_111 : decode cX11_takeWitness 111 = .ok (.iload_n 1, 1) := by decide +kernel
theorem dX11_takeWitness_112 : decode cX11_takeWitness 112 = .ok (.goto 7, 3) := by decide +kernel
theorem dX11_takeWitness_115 : decode cX11_takeWitness 115 = .ok (.aload_n 0, 1) := by decide +kernel
theorem dX11_takeWitness_116 : decode cX11_takeWitness 116 = .ok (.invokevirtual 205, 3) := by decide +kernel
theorem dX11_takeWitness_119 : decode cX11_takeWitness 119 = .ok (.istore_n 1, 1) := by decide +kernel
theorem dX11_takeWitness_120 : decode cX11_takeWitness 120 = .ok (.aload_n 0, 1) := by decide +kernel
theorem dX11_takeWitness_121 : decode cX11_takeWitness 121 = .ok (.dup, 1) := by decide +kernel
theorem dX11_takeWitness_122 : decode cX11_takeWitness 122 = .ok (.getfield 202, 3) := by decide +kernel
theorem dX11_takeWitness_125 : decode cX11_takeWitness 125 = .ok (.iconst 1, 1) := by decide +kernel
theorem dX11_takeWitness_126 : decode cX11_takeWitness 126 = .ok (.iadd, 1) := by decide +kernel
theorem dX11_takeWitness_127 : decode cX11_takeWitness 127 = .ok (.putfield 202, 3) := by decide +kernel
theorem dX11_takeWitness_130 : decode cX11_takeWitness 130 = .ok (.iload_n 1, 1) := by decide +kernel
theorem dX11_takeWitness_131 : decode cX11_takeWitness 131 = .ok (.ireturn, 1) := by decide +kernel
theorem dX11_takeClause_0 : decode cX11_takeClause 0 = .ok (.aload_n 0, 1) := by decide +kernel
theorem dX11_takeClause_1 : decode cX11_takeClause 1 = .ok (.invokevirtual 189, 3) := by decide +kernel
theorem dX11_takeClause_4 : decode cX11_takeClause 4 = .ok (.aload_n 0, 1) := by decide +kernel
theorem dX11_takeClause_5 : decode cX11_takeClause 5 = .ok (.getfield 150, 3) := by decide +kernel
theorem dX11_takeClause_8 : decode cX11_takeClause 8 = .ok (.bipush 115, 2) := by decide +kernel
theorem dX11_takeClause_10 : decode cX11_takeClause 10 = .ok (.bipush 117, 2) := by decide +kernel
theorem dX11_takeClause_12 : decode cX11_takeClause 12 = .ok (.bipush 105, 2) := by decide +kernel
theorem dX11_takeClause_14 : decode cX11_takeClause 14 = .ok (.bipush 116, 2) := by decide +kernel
theorem dX11_takeClause_16 : decode cX11_takeClause 16 = .ok (.invokestatic 194, 3) := by decide +kernel
theorem dX11_takeClause_19 : decode cX11_takeClause 19 = .ok (.lcmp, 1) := by decide +kernel
theorem dX11_takeClause_20 : decode cX11_takeClause 20 = .ok (.ifCond .ne 7, 3) := by decide +kernel
theorem dX11_takeClause_23 : decode cX11_takeClause 23 = .ok (.iconst 1, 1) := by decide +kernel
theorem dX11_takeClause_24 : decode cX11_takeClause 24 = .ok (.goto 4, 3) := by decide +kernel
theorem dX11_takeClause_27 : decode cX11_takeClause 27 = .ok (.iconst 0, 1) := by decide +kernel
theorem dX11_takeClause_28 : decode cX11_takeClause 28 = .ok (.istore_n 1, 1) := by decide +kernel
theorem dX11_takeClause_29 : decode cX11_takeClause 29 = .ok (.iload_n 1, 1) := by decide +kernel
theorem dX11_takeClause_30 : decode cX11_takeClause 30 = .ok (.ifCond .ne 47, 3) := by decide +kernel
theorem dX11_takeClause_33 : decode cX11_takeClause 33 = .ok (.aload_n 0, 1) := by decide +kernel
theorem dX11_takeClause_34 : decode cX11_takeClause 34 = .ok (.getfield 150, 3) := by decide +kernel
theorem dX11_takeClause_37 : decode cX11_takeClause 37 = .ok (.bipush 119, 2) := by decide +kernel
theorem dX11_takeClause_39 : decode cX11_takeClause 39 = .ok (.bipush 105, 2) := by decide +kernel
theorem dX11_takeClause_41 : decode cX11_takeClause 41 = .ok (.bipush 116, 2) := by decide +kernel
theorem dX11_takeClause_43 : decode cX11_takeClause 43 = .ok (.bipush 110, 2) := by decide +kernel
theorem dX11_takeClause_45 : decode cX11_takeClause 45 = .ok (.invokestatic 194, 3) := by decide +kernel
theorem dX11_takeClause_48 : decode cX11_takeClause 48 = .ok (.bipush 101, 2) := by decide +kernel
theorem dX11_takeClause_50 : decode cX11_takeClause 50 = .ok (.invokestatic 198, 3) := by decide +kernel
theorem dX11_takeClause_53 : decode cX11_takeClause 53 = .ok (.bipush 115, 2) := by decide +kernel
theorem dX11_takeClause_55 : decode cX11_takeClause 55 = .ok (.invokestatic 198, 3) := by decide +kernel
theorem dX11_takeClause_58 : decode cX11_takeClause 58 = .ok (.bipush 115, 2) := by decide +kernel
theorem dX11_takeClause_60 : decode cX11_takeClause 60 = .ok (.invokestatic 198, 3) := by decide +kernel
theorem dX11_takeClause_63 : decode cX11_takeClause 63 = .ok (.lcmp, 1) := by decide +kernel
theorem dX11_takeClause_64 : decode cX11_takeClause 64 = .ok (.ifCond .eq 13, 3) := by decide +kernel
theorem dX11_takeClause_67 : decode cX11_takeClause 67 = .ok (.aload_n 0, 1) := by decide +kernel
theorem dX11_takeClause_68 : decode cX11_takeClause 68 = .ok (.iconst 1, 1) := by decide +kernel
theorem dX11_takeClause_69 : decode cX11_takeClause 69 = .ok (.aload_n 0, 1) := by decide +kernel
theorem dX11_takeClause_70 : decode cX11_takeClause 70 = .ok (.getfield 143, 3) := by decide +kernel
theorem dX11_takeClause_73 : decode cX11_takeClause 73 = .ok (.invokevirtual 173, 3) := by decide +kernel
theorem dX11_takeClause_76 : decode cX11_takeClause 76 = .ok (.ireturn, 1) := by decide +kernel
theorem dX11_takeClause_77 : decode cX11_takeClause 77 = .ok (.iload_n 1, 1) := by decide +kernel
theorem dX11_takeClause_78 : decode cX11_takeClause 78 = .ok (.ifCond .eq 15, 3) := by decide +kernel
theorem dX11_takeClause_81 : decode cX11_takeClause 81 = .ok (.aload_n 0, 1) := by decide +kernel
theorem dX11_takeClause_82 : decode cX11_takeClause 82 = .ok (.getfield 186, 3) := by decide +kernel
theorem dX11_takeClause_85 : decode cX11_takeClause 85 = .ok (.bipush 6, 2) := by decide +kernel
theorem dX11_takeClause_87 : decode cX11_takeClause 87 = .ok (.if_icmp .ne 25, 3) := by decide +kernel
theorem dX11_takeClause_90 : decode cX11_takeClause 90 = .ok (.goto 12, 3) := by decide +kernel
theorem dX11_takeClause_93 : decode cX11_takeClause 93 = .ok (.aload_n 0, 1) := by decide +kernel
theorem dX11_takeClause_94 : decode cX11_takeClause 94 = .ok (.getfield 202, 3) := by decide +kernel
theorem dX11_takeClause_97 : decode cX11_takeClause 97 = .ok (.bipush 12, 2) := by decide +kernel
theorem dX11_takeClause_99 : decode cX11_takeClause 99 = .ok (.if_icmp .ne 13, 3) := by decide +kernel
theorem dX11_takeClause_102 : decode cX11_takeClause 102 = .ok (.aload_n 0, 1) := by decide +kernel
theorem dX11_takeClause_103 : decode cX11_takeClause 103 = .ok (.iconst 3, 1) := by decide +kernel
theorem dX11_takeClause_104 : decode cX11_takeClause 104 = .ok (.aload_n 0, 1) := by decide +kernel
theorem dX11_takeClause_105 : decode cX11_takeClause 105 = .ok (.getfield 143, 3) := by decide +kernel
theorem dX11_takeClause_108 : decode cX11_takeClause 108 = .ok (.invokevirtual 173, 3) := by decide +kernel
theorem dX11_takeClause_111 : decode cX11_takeClause 111 = .ok (.ireturn, 1) := by decide +kernel
theorem dX11_takeClause_112 : decode cX11_takeClause 112 = .ok (.aload_n 0, 1) := by decide +kernel
theorem dX11_takeClause_113 : decode cX11_takeClause 113 = .ok (.aload_n 0, 1) := by decide +kernel
theorem dX11_takeClause_114 : decode cX11_takeClause 114 = .ok (.getfield 154, 3) := by decide +kernel
theorem dX11_takeClause_117 : decode cX11_takeClause 117 = .ok (.putfield 143, 3) := by decide +kernel
theorem dX11_takeClause_120 : decode cX11_takeClause 120 = .ok (.iload_n 1, 1) := by decide +kernel
theorem dX11_takeClause_121 : decode cX11_takeClause 121 = .ok (.ifCond .eq 10, 3) := by decide +kernel
theorem dX11_takeClause_124 : decode cX11_takeClause 124 = .ok (.aload_n 0, 1) := by decide +kernel
theorem dX11_takeClause_125 : decode cX11_takeClause 125 = .ok (.invokevirtual 208, 3) := by decide +kernel
theorem dX11_takeClause_128 : decode cX11_takeClause 128 = .ok (.goto 7, 3) := by decide +kernel
theorem dX11_takeClause_131 : decode cX11_takeClause 131 = .ok (.aload_n 0, 1) := by decide +kernel
theorem dX11_takeClause_132 : decode cX11_takeClause 132 = .ok (.invokevirtual 211, 3) := by decide +kernel
theorem dX11_takeClause_135 : decode cX11_takeClause 135 = .ok (.istore_n 2, 1) := by decide +kernel
theorem dX11_takeClause_136 : decode cX11_takeClause 136 = .ok (.iload_n 2, 1) := by decide +kernel
theorem dX11_takeClause_137 : decode cX11_takeClause 137 = .ok (.ifCond .le 7, 3) := by decide +kernel
theorem dX11_takeClause_140 : decode cX11_takeClause 140 = .ok (.iload_n 2, 1) := by decide +kernel
theorem dX11_takeClause_141 : decode cX11_takeClause 141 = .ok (.goto 7, 3) := by decide +kernel
theorem dX11_takeClause_144 : decode cX11_takeClause 144 = .ok (.aload_n 0, 1) := by decide +kernel
theorem dX11_takeClause_145 : decode cX11_takeClause 145 = .ok (.invokevirtual 214, 3) := by decide +kernel
theorem dX11_takeClause_148 : decode cX11_takeClause 148 = .ok (.ireturn, 1) := by decide +kernel
theorem dX11_court_0 : decode cX11_court 0 = .ok (.aload_n 0, 1) := by decide +kernel
theorem dX11_court_1 : decode cX11_court 1 = .ok (.iconst (-1), 1) := by decide +kernel
theorem dX11_court_2 : decode cX11_court 2 = .ok (.putfield 59, 3) := by decide +kernel
theorem dX11_court_5 : decode cX11_court 5 = .ok (.aload_n 0, 1) := by decide +kernel
theorem dX11_court_6 : decode cX11_court 6 = .ok (.iconst 0, 1) := by decide +kernel
theorem dX11_court_7 : decode cX11_court 7 = .ok (.putfield 143, 3) := by decide +kernel
theorem dX11_court_10 : decode cX11_court 10 = .ok (.aload_n 0, 1) := by decide +kernel
theorem dX11_court_11 : decode cX11_court 11 = .ok (.iconst 0, 1) := by decide +kernel
theorem dX11_court_12 : decode cX11_court 12 = .ok (.putfield 186, 3) := by decide +kernel
theorem dX11_court_15 : decode cX11_court 15 = .ok (.aload_n 0, 1) := by decide +kernel
theorem dX11_court_16 : decode cX11_court 16 = .ok (.iconst 0, 1) := by decide +kernel
theorem dX11_court_17 : decode cX11_court 17 = .ok (.putfield 202, 3) := by decide +kernel
theorem dX11_court_20 : decode cX11_court 20 = .ok (.iconst 0, 1) := by decide +kernel
theorem dX11_court_21 : decode cX11_court 21 = .ok (.istore_n 1, 1) := by decide +kernel
theorem dX11_court_22 : decode cX11_court 22 = .ok (.iload_n 1, 1) := by decide +kernel
theorem dX11_court_23 : decode cX11_court 23 = .ok (.ifCond .ne 18, 3) := by decide +kernel
theorem dX11_court_26 : decode cX11_court 26 = .ok (.aload_n 0, 1) := by decide +kernel
theorem dX11_court_27 : decode cX11_court 27 = .ok (.invokevirtual 146, 3) := by decide +kernel
theorem dX11_court_30 : decode cX11_court 30 = .ok (.ifCond .lt 11, 3) := by decide +kernel
theorem dX11_court_33 : decode cX11_court 33 = .ok (.aload_n 0, 1) := by decide +kernel
theorem dX11_court_34 : decode cX11_court 34 = .ok (.invokevirtual 217, 3) := by decide +kernel
theorem dX11_court_37 : decode cX11_court 37 = .ok (.istore_n 1, 1) := by decide +kernel
theorem dX11_court_38 : decode cX11_court 38 = .ok (.goto (-16), 3) := by decide +kernel
theorem dX11_court_41 : decode cX11_court 41 = .ok (.aload_n 0, 1) := by decide +kernel
theorem dX11_court_42 : decode cX11_court 42 = .ok (.iconst 0, 1) := by decide +kernel
theorem dX11_court_43 : decode cX11_court 43 = .ok (.putfield 137, 3) := by decide +kernel
theorem dX11_court_46 : decode cX11_court 46 = .ok (.iload_n 1, 1) := by decide +kernel
theorem dX11_court_47 : decode cX11_court 47 = .ok (.ifCond .le 8, 3) := by decide +kernel
theorem dX11_court_50 : decode cX11_court 50 = .ok (.bipush (-10), 2) := by decide +kernel
theorem dX11_court_52 : decode cX11_court 52 = .ok (.iload_n 1, 1) := by decide +kernel
theorem dX11_court_53 : decode cX11_court 53 = .ok (.isub, 1) := by decide +kernel
theorem dX11_court_54 : decode cX11_court 54 = .ok (.ireturn, 1) := by decide +kernel
theorem dX11_court_55 : decode cX11_court 55 = .ok (.aload_n 0, 1) := by decide +kernel
theorem dX11_court_56 : decode cX11_court 56 = .ok (.aload_n 0, 1) := by decide +kernel
theorem dX11_court_57 : decode cX11_court 57 = .ok (.getfield 186, 3) := by decide +kernel
theorem dX11_court_60 : decode cX11_court 60 = .ok (.putfield 124, 3) := by decide +kernel
theorem dX11_court_63 : decode cX11_court 63 = .ok (.aload_n 0, 1) := by decide +kernel
theorem dX11_court_64 : decode cX11_court 64 = .ok (.aload_n 0, 1) := by decide +kernel
theorem dX11_court_65 : decode cX11_court 65 = .ok (.getfield 202, 3) := by decide +kernel
theorem dX11_court_68 : decode cX11_court 68 = .ok (.putfield 131, 3) := by decide +kernel
theorem dX11_court_71 : decode cX11_court 71 = .ok (.iconst 0, 1) := by decide +kernel
theorem dX11_court_72 : decode cX11_court 72 = .ok (.istore_n 2, 1) := by decide +kernel
theorem dX11_court_73 : decode cX11_court 73 = .ok (.iload_n 2, 1) := by decide +kernel
theorem dX11_court_74 : decode cX11_court 74 = .ok (.bipush 6, 2) := by decide +kernel
theorem dX11_court_76 : decode cX11_court 76 = .ok (.if_icmp .ge 52, 3) := by decide +kernel
theorem dX11_court_79 : decode cX11_court 79 = .ok (.aload_n 0, 1) := by decide +kernel
theorem dX11_court_80 : decode cX11_court 80 = .ok (.getfield 7, 3) := by decide +kernel
theorem dX11_court_83 : decode cX11_court 83 = .ok (.iload_n 2, 1) := by decide +kernel
theorem dX11_court_84 : decode cX11_court 84 = .ok (.aload_n 0, 1) := by decide +kernel
theorem dX11_court_85 : decode cX11_court 85 = .ok (.getfield 63, 3) := by decide +kernel
theorem dX11_court_88 : decode cX11_court 88 = .ok (.iload_n 2, 1) := by decide +kernel
theorem dX11_court_89 : decode cX11_court 89 = .ok (.iaload, 1) := by decide +kernel
theorem dX11_court_90 : decode cX11_court 90 = .ok (.iastore, 1) := by decide +kernel
theorem dX11_court_91 : decode cX11_court 91 = .ok (.aload_n 0, 1) := by decide +kernel
theorem dX11_court_92 : decode cX11_court 92 = .ok (.getfield 13, 3) := by decide +kernel
theorem dX11_court_95 : decode cX11_court 95 = .ok (.iload_n 2, 1) := by decide +kernel
theorem dX11_court_96 : decode cX11_court 96 = .ok (.aload_n 0, 1) := by decide +kernel
theorem dX11_court_97 : decode cX11_court 97 = .ok (.getfield 66, 3) := by decide +kernel
theorem dX11_court_100 : decode cX11_court 100 = .ok (.iload_n 2, 1) := by decide +kernel
theorem dX11_court_101 : decode cX11_court 101 = .ok (.iaload, 1) := by decide +kernel
theorem dX11_court_102 : decode cX11_court 102 = .ok (.iastore, 1) := by decide +kernel
theorem dX11_court_103 : decode cX11_court 103 = .ok (.aload_n 0, 1) := by decide +kernel
theorem dX11_court_104 : decode cX11_court 104 = .ok (.getfield 16, 3) := by decide +kernel
theorem dX11_court_107 : decode cX11_court 107 = .ok (.iload_n 2, 1) := by decide +kernel
theorem dX11_court_108 : decode cX11_court 108 = .ok (.aload_n 0, 1) := by decide +kernel
theorem dX11_court_109 : decode cX11_court 109 = .ok (.getfield 69, 3) := by decide +kernel
theorem dX11_court_112 : decode cX11_court 112 = .ok (.iload_n 2, 1) := by decide +kernel
theorem dX11_court_113 : decode cX11_court 113 = .ok (.iaload, 1) := by decide +kernel
theorem dX11_court_114 : decode cX11_court 114 = .ok (.iastore, 1) := by decide +kernel
theorem dX11_court_115 : decode cX11_court 115 = .ok (.aload_n 0, 1) := by decide +kernel
theorem dX11_court_116 : decode cX11_court 116 = .ok (.getfield 106, 3) := by decide +kernel
theorem dX11_court_119 : decode cX11_court 119 = .ok (.iload_n 2, 1) := by decide +kernel
theorem dX11_court_120 : decode cX11_court 120 = .ok (.iconst 0, 1) := by decide +kernel
theorem dX11_court_121 : decode cX11_court 121 = .ok (.iastore, 1) := by decide +kernel
theorem dX11_court_122 : decode cX11_court 122 = .ok (.iinc 2 1, 3) := by decide +kernel
theorem dX11_court_125 : decode cX11_court 125 = .ok (.goto (-52), 3) := by decide +kernel
theorem dX11_court_128 : decode cX11_court 128 = .ok (.iconst 0, 1) := by decide +kernel
theorem dX11_court_129 : decode cX11_court 129 = .ok (.istore_n 2, 1) := by decide +kernel
theorem dX11_court_130 : decode cX11_court 130 = .ok (.iload_n 2, 1) := by decide +kernel
theorem dX11_court_131 : decode cX11_court 131 = .ok (.bipush 12, 2) := by decide +kernel
theorem dX11_court_133 : decode cX11_court 133 = .ok (.if_icmp .ge 45, 3) := by decide +kernel
theorem dX11_court_136 : decode cX11_court 136 = .ok (.aload_n 0, 1) := by decide +kernel
theorem dX11_court_137 : decode cX11_court 137 = .ok (.getfield 19, 3) := by decide +kernel
theorem dX11_court_140 : decode cX11_court 140 = .ok (.iload_n 2, 1) := by decide +kernel
theorem dX11_court_141 : decode cX11_court 141 = .ok (.aload_n 0, 1) := by decide +kernel
theorem dX11_court_142 : decode cX11_court 142 = .ok (.getfield 72, 3) := by decide +kernel
theorem dX11_court_145 : decode cX11_court 145 = .ok (.iload_n 2, 1) := by decide +kernel
theorem dX11_court_146 : decode cX11_court 146 = .ok (.iaload, 1) := by decide +kernel
theorem dX11_court_147 : decode cX11_court 147 = .ok (.iastore, 1) := by decide +kernel
theorem dX11_court_148 : decode cX11_court 148 = .ok (.aload_n 0, 1) := by decide +kernel
theorem dX11_court_149 : decode cX11_court 149 = .ok (.getfield 22, 3) := by decide +kernel
theorem dX11_court_152 : decode cX11_court 152 = .ok (.iload_n 2, 1) := by decide +kernel
theorem dX11_court_153 : decode cX11_court 153 = .ok (.aload_n 0, 1) := by decide +kernel
theorem dX11_court_154 : decode cX11_court 154 = .ok (.getfield 75, 3) := by decide +kernel
theorem dX11_court_157 : decode cX11_court 157 = .ok (.iload_n 2, 1) := by decide +kernel
theorem dX11_court_158 : decode cX11_court 158 = .ok (.iaload, 1) := by decide +kernel
theorem dX11_court_159 : decode cX11_court 159 = .ok (.iastore, 1) := by decide +kernel
theorem dX11_court_160 : decode cX11_court 160 = .ok (.aload_n 0, 1) := by decide +kernel
theorem dX11_court_161 : decode cX11_court 161 = .ok (.getfield 25, 3) := by decide +kernel
theorem dX11_court_164 : decode cX11_court 164 = .ok (.iload_n 2, 1) := by decide +kernel
theorem dX11_court_165 : decode cX11_court 165 = .ok (.aload_n 0, 1) := by decide +kernel
theorem dX11_court_166 : decode cX11_court 166 = .ok (.getfield 78, 3) := by decide +kernel
theorem dX11_court_169 : decode cX11_court 169 = .ok (.iload_n 2, 1) := by decide +kernel
theorem dX11_court_170 : decode cX11_court 170 = .ok (.iaload, 1) := by decide +kernel
theorem dX11_court_171 : decode cX11_court 171 = .ok (.iastore, 1) := by decide +kernel
theorem dX11_court_172 : decode cX11_court 172 = .ok (.iinc 2 1, 3) := by decide +kernel
theorem dX11_court_175 : decode cX11_court 175 = .ok (.goto (-45), 3) := by decide +kernel
theorem dX11_court_178 : decode cX11_court 178 = .ok (.aload_n 0, 1) := by decide +kernel
theorem dX11_court_179 : decode cX11_court 179 = .ok (.invokevirtual 220, 3) := by decide +kernel
theorem dX11_court_182 : decode cX11_court 182 = .ok (.aload_n 0, 1) := by decide +kernel
theorem dX11_court_183 : decode cX11_court 183 = .ok (.getfield 121, 3) := by decide +kernel
theorem dX11_court_186 : decode cX11_court 186 = .ok (.iconst 0, 1) := by decide +kernel
theorem dX11_court_187 : decode cX11_court 187 = .ok (.iconst 0, 1) := by decide +kernel
theorem dX11_court_188 : decode cX11_court 188 = .ok (.bastore, 1) := by decide +kernel
theorem dX11_court_189 : decode cX11_court 189 = .ok (.aload_n 0, 1) := by decide +kernel
theorem dX11_court_190 : decode cX11_court 190 = .ok (.getfield 121, 3) := by decide +kernel
theorem dX11_court_193 : decode cX11_court 193 = .ok (.iconst 1, 1) := by decide +kernel
theorem dX11_court_194 : decode cX11_court 194 = .ok (.iconst 0, 1) := by decide +kernel
theorem dX11_court_195 : decode cX11_court 195 = .ok (.bastore, 1) := by decide +kernel
theorem dX11_court_196 : decode cX11_court 196 = .ok (.aload_n 0, 1) := by decide +kernel
theorem dX11_court_197 : decode cX11_court 197 = .ok (.getfield 124, 3) := by decide +kernel
theorem dX11_court_200 : decode cX11_court 200 = .ok (.ireturn, 1) := by decide +kernel
theorem dX11_anew_0 : decode cX11_anew 0 = .ok (.aload_n 0, 1) := by decide +kernel
theorem dX11_anew_1 : decode cX11_anew 1 = .ok (.iconst 0, 1) := by decide +kernel
theorem dX11_anew_2 : decode cX11_anew 2 = .ok (.putfield 223, 3) := by decide +kernel
theorem dX11_anew_5 : decode cX11_anew 5 = .ok (.aload_n 0, 1) := by decide +kernel
theorem dX11_anew_6 : decode cX11_anew 6 = .ok (.iconst 0, 1) := by decide +kernel
theorem dX11_anew_7 : decode cX11_anew 7 = .ok (.putfield 226, 3) := by decide +kernel
theorem dX11_anew_10 : decode cX11_anew 10 = .ok (.iconst 0, 1) := by decide +kernel
theorem dX11_anew_11 : decode cX11_anew 11 = .ok (.istore_n 1, 1) := by decide +kernel
theorem dX11_anew_12 : decode cX11_anew 12 = .ok (.iload_n 1, 1) := by decide +kernel
theorem dX11_anew_13 : decode cX11_anew 13 = .ok (.bipush 12, 2) := by decide +kernel
theorem dX11_anew_15 : decode cX11_anew 15 = .ok (.if_icmp .ge 30, 3) := by decide +kernel
theorem dX11_anew_18 : decode cX11_anew 18 = .ok (.aload_n 0, 1) := by decide +kernel
theorem dX11_anew_19 : decode cX11_anew 19 = .ok (.getfield 31, 3) := by decide +kernel
theorem dX11_anew_22 : decode cX11_anew 22 = .ok (.iload_n 1, 1) := by decide +kernel
theorem dX11_anew_23 : decode cX11_anew 23 = .ok (.iconst (-1), 1) := by decide +kernel
theorem dX11_anew_24 : decode cX11_anew 24 = .ok (.iastore, 1) := by decide +kernel
theorem dX11_anew_25 : decode cX11_anew 25 = .ok (.aload_n 0, 1) := by decide +kernel
theorem dX11_anew_26 : decode cX11_anew 26 = .ok (.getfield 34, 3) := by decide +kernel
theorem dX11_anew_29 : decode cX11_anew 29 = .ok (.iload_n 1, 1) := by decide +kernel
theorem dX11_anew_30 : decode cX11_anew 30 = .ok (.iconst 0, 1) := by decide +kernel
theorem dX11_anew_31 : decode cX11_anew 31 = .ok (.iastore, 1) := by decide +kernel
theorem dX11_anew_32 : decode cX11_anew 32 = .ok (.aload_n 0, 1) := by decide +kernel
theorem dX11_anew_33 : decode cX11_anew 33 = .ok (.getfield 37, 3) := by decide +kernel
theorem dX11_anew_36 : decode cX11_anew 36 = .ok (.iload_n 1, 1) := by decide +kernel
theorem dX11_anew_37 : decode cX11_anew 37 = .ok (.iconst 0, 1) := by decide +kernel
theorem dX11_anew_38 : decode cX11_anew 38 = .ok (.bastore, 1) := by decide +kernel
theorem dX11_anew_39 : decode cX11_anew 39 = .ok (.iinc 1 1, 3) := by decide +kernel
theorem dX11_anew_42 : decode cX11_anew 42 = .ok (.goto (-30), 3) := by decide +kernel
theorem dX11_anew_45 : decode cX11_anew 45 = .ok (.iconst 0, 1) := by decide +kernel
theorem dX11_anew_46 : decode cX11_anew 46 = .ok (.istore_n 1, 1) := by decide +kernel
theorem dX11_anew_47 : decode cX11_anew 47 = .ok (.iload_n 1, 1) := by decide +kernel
theorem dX11_anew_48 : decode cX11_anew 48 = .ok (.bipush 6, 2) := by decide +kernel
theorem dX11_anew_50 : decode cX11_anew 50 = .ok (.if_icmp .ge 30, 3) := by decide +kernel
theorem dX11_anew_53 : decode cX11_anew 53 = .ok (.aload_n 0, 1) := by decide +kernel
theorem dX11_anew_54 : decode cX11_anew 54 = .ok (.getfield 41, 3) := by decide +kernel
theorem dX11_anew_57 : decode cX11_anew 57 = .ok (.iload_n 1, 1) := by decide +kernel
theorem dX11_anew_58 : decode cX11_anew 58 = .ok (.iconst 0, 1) := by decide +kernel
theorem dX11_anew_59 : decode cX11_anew 59 = .ok (.iastore, 1) := by decide +kernel
theorem dX11_anew_60 : decode cX11_anew 60 = .ok (.aload_n 0, 1) := by decide +kernel
theorem dX11_anew_61 : decode cX11_anew 61 = .ok (.getfield 44, 3) := by decide +kernel
theorem dX11_anew_64 : decode cX11_anew 64 = .ok (.iload_n 1, 1) := by decide +kernel
theorem dX11_anew_65 : decode cX11_anew 65 = .ok (.iconst (-1), 1) := by decide +kernel
theorem dX11_anew_66 : decode cX11_anew 66 = .ok (.iastore, 1) := by decide +kernel
theorem dX11_anew_67 : decode cX11_anew 67 = .ok (.aload_n 0, 1) := by decide +kernel
theorem dX11_anew_68 : decode cX11_anew 68 = .ok (.getfield 47, 3) := by decide +kernel
theorem dX11_anew_71 : decode cX11_anew 71 = .ok (.iload_n 1, 1) := by decide +kernel
theorem dX11_anew_72 : decode cX11_anew 72 = .ok (.iconst 0, 1) := by decide +kernel
theorem dX11_anew_73 : decode cX11_anew 73 = .ok (.iastore, 1) := by decide +kernel
theorem dX11_anew_74 : decode cX11_anew 74 = .ok (.iinc 1 1, 3) := by decide +kernel
theorem dX11_anew_77 : decode cX11_anew 77 = .ok (.goto (-30), 3) := by decide +kernel
theorem dX11_anew_80 : decode cX11_anew 80 = .ok (.iconst 0, 1) := by decide +kernel
theorem dX11_anew_81 : decode cX11_anew 81 = .ok (.istore_n 1, 1) := by decide +kernel
theorem dX11_anew_82 : decode cX11_anew 82 = .ok (.iload_n 1, 1) := by decide +kernel
theorem dX11_anew_83 : decode cX11_anew 83 = .ok (.sipush 2400, 3) := by decide +kernel
theorem dX11_anew_86 : decode cX11_anew 86 = .ok (.if_icmp .ge 16, 3) := by decide +kernel
theorem dX11_anew_89 : decode cX11_anew 89 = .ok (.aload_n 0, 1) := by decide +kernel
theorem dX11_anew_90 : decode cX11_anew 90 = .ok (.getfield 50, 3) := by decide +kernel
theorem dX11_anew_93 : decode cX11_anew 93 = .ok (.iload_n 1, 1) := by decide +kernel
theorem dX11_anew_94 : decode cX11_anew 94 = .ok (.iconst 0, 1) := by decide +kernel
theorem dX11_anew_95 : decode cX11_anew 95 = .ok (.iastore, 1) := by decide +kernel
theorem dX11_anew_96 : decode cX11_anew 96 = .ok (.iinc 1 1, 3) := by decide +kernel
theorem dX11_anew_99 : decode cX11_anew 99 = .ok (.goto (-17), 3) := by decide +kernel
theorem dX11_anew_102 : decode cX11_anew 102 = .ok (.return_, 1) := by decide +kernel
theorem dX11_takeLaw_0 : decode cX11_takeLaw 0 = .ok (.aload_n 0, 1) := by decide +kernel
theorem dX11_takeLaw_1 : decode cX11_takeLaw 1 = .ok (.invokevirtual 189, 3) := by decide +kernel
theorem dX11_takeLaw_4 : decode cX11_takeLaw 4 = .ok (.aload_n 0, 1) := by decide +kernel
theorem dX11_takeLaw_5 : decode cX11_takeLaw 5 = .ok (.getfield 150, 3) := by decide +kernel
theorem dX11_takeLaw_8 : decode cX11_takeLaw 8 = .ok (.bipush 102, 2) := by decide +kernel
theorem dX11_takeLaw_10 : decode cX11_takeLaw 10 = .ok (.bipush 114, 2) := by decide +kernel
theorem dX11_takeLaw_12 : decode cX11_takeLaw 12 = .ok (.bipush 111, 2) := by decide +kernel
theorem dX11_takeLaw_14 : decode cX11_takeLaw 14 = .ok (.bipush 109, 2) := by decide +kernel
theorem dX11_takeLaw_16 : decode cX11_takeLaw 16 = .ok (.invokestatic 194, 3) := by decide +kernel
theorem dX11_takeLaw_19 : decode cX11_takeLaw 19 = .ok (.lcmp, 1) := by decide +kernel
theorem dX11_takeLaw_20 : decode cX11_takeLaw 20 = .ok (.ifCond .eq 13, 3) := by decide +kernel
theorem dX11_takeLaw_23 : decode cX11_takeLaw 23 = .ok (.aload_n 0, 1) := by decide +kernel
theorem dX11_takeLaw_24 : decode cX11_takeLaw 24 = .ok (.iconst 1, 1) := by decide +kernel
theorem dX11_takeLaw_25 : decode cX11_takeLaw 25 = .ok (.aload_n 0, 1) := by decide +kernel
theorem dX11_takeLaw_26 : decode cX11_takeLaw 26 = .ok (.getfield 143, 3) := by decide +kernel
theorem dX11_takeLaw_29 : decode cX11_takeLaw 29 = .ok (.invokevirtual 173, 3) := by decide +kernel
theorem dX11_takeLaw_32 : decode cX11_takeLaw 32 = .ok (.ireturn, 1) := by decide +kernel
theorem dX11_takeLaw_33 : decode cX11_takeLaw 33 = .ok (.aload_n 0, 1) := by decide +kernel
theorem dX11_takeLaw_34 : decode cX11_takeLaw 34 = .ok (.getfield 229, 3) := by decide +kernel
theorem dX11_takeLaw_37 : decode cX11_takeLaw 37 = .ok (.bipush 6, 2) := by decide +kernel
theorem dX11_takeLaw_39 : decode cX11_takeLaw 39 = .ok (.if_icmp .ne 13, 3) := by decide +kernel
theorem dX11_takeLaw_42 : decode cX11_takeLaw 42 = .ok (.aload_n 0, 1) := by decide +kernel
theorem dX11_takeLaw_43 : decode cX11_takeLaw 43 = .ok (.iconst 3, 1) := by decide +kernel
theorem dX11_takeLaw_44 : decode cX11_takeLaw 44 = .ok (.aload_n 0, 1) := by decide +kernel
theorem dX11_takeLaw_45 : decode cX11_takeLaw 45 = .ok (.getfield 143, 3) := by decide +kernel
theorem dX11_takeLaw_48 : decode cX11_takeLaw 48 = .ok (.invokevirtual 173, 3) := by decide +kernel
theorem dX11_takeLaw_51 : decode cX11_takeLaw 51 = .ok (.ireturn, 1) := by decide +kernel
theorem dX11_takeLaw_52 : decode cX11_takeLaw 52 = .ok (.aload_n 0, 1) := by decide +kernel
theorem dX11_takeLaw_53 : decode cX11_takeLaw 53 = .ok (.aload_n 0, 1) := by decide +kernel
theorem dX11_takeLaw_54 : decode cX11_takeLaw 54 = .ok (.getfield 154, 3) := by decide +kernel
theorem dX11_takeLaw_57 : decode cX11_takeLaw 57 = .ok (.putfield 143, 3) := by decide +kernel
theorem dX11_takeLaw_60 : decode cX11_takeLaw 60 = .ok (.iconst 4, 1) := by decide +kernel
theorem dX11_takeLaw_61 : decode cX11_takeLaw 61 = .ok (.aload_n 0, 1) := by decide +kernel
theorem dX11_takeLaw_62 : decode cX11_takeLaw 62 = .ok (.getfield 229, 3) := by decide +kernel
theorem dX11_takeLaw_65 : decode cX11_takeLaw 65 = .ok (.imul, 1) := by decide +kernel
theorem dX11_takeLaw_66 : decode cX11_takeLaw 66 = .ok (.istore_n 1, 1) := by decide +kernel
theorem dX11_takeLaw_67 : decode cX11_takeLaw 67 = .ok (.aload_n 0, 1) := by decide +kernel
theorem dX11_takeLaw_68 : decode cX11_takeLaw 68 = .ok (.iconst 0, 1) := by decide +kernel
theorem dX11_takeLaw_69 : decode cX11_takeLaw 69 = .ok (.sipush 399, 3) := by decide +kernel
theorem dX11_takeLaw_72 : decode cX11_takeLaw 72 = .ok (.invokevirtual 183, 3) := by decide +kernel
theorem dX11_takeLaw_75 : decode cX11_takeLaw 75 = .ok (.istore_n 2, 1) := by decide +kernel
theorem dX11_takeLaw_76 : decode cX11_takeLaw 76 = .ok (.iload_n 2, 1) := by decide +kernel
theorem dX11_takeLaw_77 : decode cX11_takeLaw 77 = .ok (.ifCond .ne 37, 3) := by decide +kernel
theorem dX11_takeLaw_80 : decode cX11_takeLaw 80 = .ok (.aload_n 0, 1) := by decide +kernel
theorem dX11_takeLaw_81 : decode cX11_takeLaw 81 = .ok (.getfield 229, 3) := by decide +kernel
theorem dX11_takeLaw_84 : decode cX11_takeLaw 84 = .ok (.ifCond .le 30, 3) := by decide +kernel
theorem dX11_takeLaw_87 : decode cX11_takeLaw 87 = .ok (.aload_n 0, 1) := by decide +kernel
theorem dX11_takeLaw_88 : decode cX11_takeLaw 88 = .ok (.getfield 180, 3) := by decide +kernel
theorem dX11_takeLaw_91 : decode cX11_takeLaw 91 = .ok (.aload_n 0, 1) := by decide +kernel
theorem dX11_takeLaw_92 : decode cX11_takeLaw 92 = .ok (.getfield 81, 3) := by decide +kernel
theorem dX11_takeLaw_95 : decode cX11_takeLaw 95 = .ok (.iload_n 1, 1) := by decide +kernel
theorem dX11_takeLaw_96 : decode cX11_takeLaw 96 = .ok (.iconst 4, 1) := by decide +kernel
theorem dX11_takeLaw_97 : decode cX11_takeLaw 97 = .ok (.isub, 1) := by decide +kernel
theorem dX11_takeLaw_98 : decode cX11_takeLaw 98 = .ok (.iaload, 1) := by decide +kernel
theorem dX11_takeLaw_99 : decode cX11_takeLaw 99 = .ok (.if_icmp .gt 15, 3) := by decide +kernel
theorem dX11_takeLaw_102 : decode cX11_takeLaw 102 = .ok (.aload_n 0, 1) := by decide +kernel
theorem dX11_takeLaw_103 : decode cX11_takeLaw 103 = .ok (.iconst 4, 1) := by decide +kernel
theorem dX11_takeLaw_104 : decode cX11_takeLaw 104 = .ok (.aload_n 0, 1) := by decide +kernel
theorem dX11_takeLaw_105 : decode cX11_takeLaw 105 = .ok (.getfield 177, 3) := by decide +kernel
theorem dX11_takeLaw_108 : decode cX11_takeLaw 108 = .ok (.invokevirtual 173, 3) := by decide +kernel
theorem dX11_takeLaw_111 : decode cX11_takeLaw 111 = .ok (.goto 4, 3) := by decide +kernel
theorem dX11_takeLaw_114 : decode cX11_takeLaw 114 = .ok (.iload_n 2, 1) := by decide +kernel
theorem dX11_takeLaw_115 : decode cX11_takeLaw 115 = .ok (.istore_n 2, 1) := by decide +kernel
theorem dX11_takeLaw_116 : decode cX11_takeLaw 116 = .ok (.aload_n 0, 1) := by decide +kernel
theorem dX11_takeLaw_117 : decode cX11_takeLaw 117 = .ok (.getfield 81, 3) := by decide +kernel
theorem dX11_takeLaw_120 : decode cX11_takeLaw 120 = .ok (.iload_n 1, 1) := by decide +kernel
theorem dX11_takeLaw_121 : decode cX11_takeLaw 121 = .ok (.aload_n 0, 1) := by decide +kernel
theorem dX11_takeLaw_122 : decode cX11_takeLaw 122 = .ok (.getfield 180, 3) := by decide +kernel
theorem dX11_takeLaw_125 : decode cX11_takeLaw 125 = .ok (.iastore, 1) := by decide +kernel
theorem dX11_takeLaw_126 : decode cX11_takeLaw 126 = .ok (.iload_n 2, 1) := by decide +kernel
theorem dX11_takeLaw_127 : decode cX11_takeLaw 127 = .ok (.ifCond .le 7, 3) := by decide +kernel
theorem dX11_takeLaw_130 : decode cX11_takeLaw 130 = .ok (.iload_n 2, 1) := by decide +kernel
theorem dX11_takeLaw_131 : decode cX11_takeLaw 131 = .ok (.goto 10, 3) := by decide +kernel
theorem dX11_takeLaw_134 : decode cX11_takeLaw 134 = .ok (.aload_n 0, 1) := by decide +kernel
theorem dX11_takeLaw_135 : decode cX11_takeLaw 135 = .ok (.iconst 0, 1) := by decide +kernel
theorem dX11_takeLaw_136 : decode cX11_takeLaw 136 = .ok (.bipush 6, 2) := by decide +kernel
theorem dX11_takeLaw_138 : decode cX11_takeLaw 138 = .ok (.invokevirtual 183, 3) := by decide +kernel
theorem dX11_takeLaw_141 : decode cX11_takeLaw 141 = .ok (.istore_n 2, 1) := by decide +kernel
theorem dX11_takeLaw_142 : decode cX11_takeLaw 142 = .ok (.aload_n 0, 1) := by decide +kernel
theorem dX11_takeLaw_143 : decode cX11_takeLaw 143 = .ok (.getfield 81, 3) := by decide +kernel
theorem dX11_takeLaw_146 : decode cX11_takeLaw 146 = .ok (.iload_n 1, 1) := by decide +kernel
theorem dX11_takeLaw_147 : decode cX11_takeLaw 147 = .ok (.iconst 1, 1) := by decide +kernel
theorem dX11_takeLaw_148 : decode cX11_takeLaw 148 = .ok (.iadd, 1) := by decide +kernel
theorem dX11_takeLaw_149 : decode cX11_takeLaw 149 = .ok (.aload_n 0, 1) := by decide +kernel
theorem dX11_takeLaw_150 : decode cX11_takeLaw 150 = .ok (.getfield 180, 3) := by decide +kernel
theorem dX11_takeLaw_153 : decode cX11_takeLaw 153 = .ok (.iastore, 1) := by decide +kernel
theorem dX11_takeLaw_154 : decode cX11_takeLaw 154 = .ok (.iload_n 2, 1) := by decide +kernel
theorem dX11_takeLaw_155 : decode cX11_takeLaw 155 = .ok (.ifCond .le 7, 3) := by decide +kernel
theorem dX11_takeLaw_158 : decode cX11_takeLaw 158 = .ok (.iload_n 2, 1) := by decide +kernel
theorem dX11_takeLaw_159 : decode cX11_takeLaw 159 = .ok (.goto 10, 3) := by decide +kernel
theorem dX11_takeLaw_162 : decode cX11_takeLaw 162 = .ok (.aload_n 0, 1) := by decide +kernel
theorem dX11_takeLaw_163 : decode cX11_takeLaw 163 = .ok (.iconst 1, 1) := by decide +kernel
theorem dX11_takeLaw_164 : decode cX11_takeLaw 164 = .ok (.bipush 60, 2) := by decide +kernel
theorem dX11_takeLaw_166 : decode cX11_takeLaw 166 = .ok (.invokevirtual 183, 3) := by decide +kernel
theorem dX11_takeLaw_169 : decode cX11_takeLaw 169 = .ok (.istore_n 2, 1) := by decide +kernel
theorem dX11_takeLaw_170 : decode cX11_takeLaw 170 = .ok (.aload_n 0, 1) := by decide +kernel
theorem dX11_takeLaw_171 : decode cX11_takeLaw 171 = .ok (.getfield 81, 3) := by decide +kernel
theorem dX11_takeLaw_174 : decode cX11_takeLaw 174 = .ok (.iload_n 1, 1) := by decide +kernel
theorem dX11_takeLaw_175 : decode cX11_takeLaw 175 = .ok (.iconst 2, 1) := by decide +kernel
theorem dX11_takeLaw_176 : decode cX11_takeLaw 176 = .ok (.iadd, 1) := by decide +kernel
theorem dX11_takeLaw_177 : decode cX11_takeLaw 177 = .ok (.aload_n 0, 1) := by decide +kernel
theorem dX11_takeLaw_178 : decode cX11_takeLaw 178 = .ok (.getfield 180, 3) := by decide +kernel
theorem dX11_takeLaw_181 : decode cX11_takeLaw 181 = .ok (.iastore, 1) := by decide +kernel
theorem dX11_takeLaw_182 : decode cX11_takeLaw 182 = .ok (.iload_n 2, 1) := by decide +kernel
theorem dX11_takeLaw_183 : decode cX11_takeLaw 183 = .ok (.ifCond .le 7, 3) := by decide +kernel
theorem dX11_takeLaw_186 : decode cX11_takeLaw 186 = .ok (.iload_n 2, 1) := by decide +kernel
theorem dX11_takeLaw_187 : decode cX11_takeLaw 187 = .ok (.goto 10, 3) := by decide +kernel
theorem dX11_takeLaw_190 : decode cX11_takeLaw 190 = .ok (.aload_n 0, 1) := by decide +kernel
theorem dX11_takeLaw_191 : decode cX11_takeLaw 191 = .ok (.iconst 1, 1) := by decide +kernel
theorem dX11_takeLaw_192 : decode cX11_takeLaw 192 = .ok (.bipush 6, 2) := by decide +kernel
theorem dX11_takeLaw_194 : decode cX11_takeLaw 194 = .ok (.invokevirtual 183, 3) := by decide +kernel
theorem dX11_takeLaw_197 : decode cX11_takeLaw 197 = .ok (.istore_n 2, 1) := by decide +kernel
theorem dX11_takeLaw_198 : decode cX11_takeLaw 198 = .ok (.aload_n 0, 1) := by decide +kernel
theorem dX11_takeLaw_199 : decode cX11_takeLaw 199 = .ok (.getfield 81, 3) := by decide +kernel
theorem dX11_takeLaw_202 : decode cX11_takeLaw 202 = .ok (.iload_n 1, 1) := by decide +kernel
theorem dX11_takeLaw_203 : decode cX11_takeLaw 203 = .ok (.iconst 3, 1) := by decide +kernel
theorem dX11_takeLaw_204 : decode cX11_takeLaw 204 = .ok (.iadd, 1) := by decide +kernel
theorem dX11_takeLaw_205 : decode cX11_takeLaw 205 = .ok (.aload_n 0, 1) := by decide +kernel
theorem dX11_takeLaw_206 : decode cX11_takeLaw 206 = .ok (.getfield 180, 3) := by decide +kernel
theorem dX11_takeLaw_209 : decode cX11_takeLaw 209 = .ok (.iastore, 1) := by decide +kernel
theorem dX11_takeLaw_210 : decode cX11_takeLaw 210 = .ok (.aload_n 0, 1) := by decide +kernel
theorem dX11_takeLaw_211 : decode cX11_takeLaw 211 = .ok (.dup, 1) := by decide +kernel
theorem dX11_takeLaw_212 : decode cX11_takeLaw 212 = .ok (.getfield 229, 3) := by decide +kernel
theorem dX11_takeLaw_215 : decode cX11_takeLaw 215 = .ok (.iconst 1, 1) := by decide +kernel
theorem dX11_takeLaw_216 : decode cX11_takeLaw 216 = .ok (.iadd, 1) := by decide +kernel
theorem dX11_takeLaw_217 : decode cX11_takeLaw 217 = .ok (.putfield 229, 3) := by decide +kernel
theorem dX11_takeLaw_220 : decode cX11_takeLaw 220 = .ok (.iload_n 2, 1) := by decide +kernel
theorem dX11_takeLaw_221 : decode cX11_takeLaw 221 = .ok (.ifCond .le 7, 3) := by decide +kernel
theorem dX11_takeLaw_224 : decode cX11_takeLaw 224 = .ok (.iload_n 2, 1) := by decide +kernel
theorem dX11_takeLaw_225 : decode cX11_takeLaw 225 = .ok (.goto 7, 3) := by decide +kernel
theorem dX11_takeLaw_228 : decode cX11_takeLaw 228 = .ok (.aload_n 0, 1) := by decide +kernel
theorem dX11_takeLaw_229 : decode cX11_takeLaw 229 = .ok (.invokevirtual 214, 3) := by decide +kernel
theorem dX11_takeLaw_232 : decode cX11_takeLaw 232 = .ok (.ireturn, 1) := by decide +kernel
theorem dX11_laws_0 : decode cX11_laws 0 = .ok (.aload_n 0, 1) := by decide +kernel
theorem dX11_laws_1 : decode cX11_laws 1 = .ok (.getfield 137, 3) := by decide +kernel
theorem dX11_laws_4 : decode cX11_laws 4 = .ok (.sipush 200, 3) := by decide +kernel
theorem dX11_laws_7 : decode cX11_laws 7 = .ok (.if_icmp .le 6, 3) := by decide +kernel
theorem dX11_laws_10 : decode cX11_laws 10 = .ok (.ldc 232, 2) := by decide +kernel
theorem dX11_laws_12 : decode cX11_laws 12 = .ok (.ireturn, 1) := by decide +kernel
theorem dX11_laws_13 : decode cX11_laws 13 = .ok (.aload_n 0, 1) := by decide +kernel
theorem dX11_laws_14 : decode cX11_laws 14 = .ok (.iconst (-1), 1) := by decide +kernel
theorem dX11_laws_15 : decode cX11_laws 15 = .ok (.putfield 59, 3) := by decide +kernel
theorem dX11_laws_18 : decode cX11_laws 18 = .ok (.aload_n 0, 1) := by decide +kernel
theorem dX11_laws_19 : decode cX11_laws 19 = .ok (.iconst 0, 1) := by decide +kernel
theorem dX11_laws_20 : decode cX11_laws 20 = .ok (.putfield 143, 3) := by decide +kernel
theorem dX11_laws_23 : decode cX11_laws 23 = .ok (.aload_n 0, 1) := by decide +kernel
theorem dX11_laws_24 : decode cX11_laws 24 = .ok (.iconst 0, 1) := by decide +kernel
theorem dX11_laws_25 : decode cX11_laws 25 = .ok (.putfield 229, 3) := by decide +kernel
theorem dX11_laws_28 : decode cX11_laws 28 = .ok (.iconst 0, 1) := by decide +kernel
theorem dX11_laws_29 : decode cX11_laws 29 = .ok (.istore_n 1, 1) := by decide +kernel
theorem dX11_laws_30 : decode cX11_laws 30 = .ok (.iload_n 1, 1) := by decide +kernel
theorem dX11_laws_31 : decode cX11_laws 31 = .ok (.ifCond .ne 18, 3) := by decide +kernel
theorem dX11_laws_34 : decode cX11_laws 34 = .ok (.aload_n 0, 1) := by decide +kernel
theorem dX11_laws_35 : decode cX11_laws 35 = .ok (.invokevirtual 146, 3) := by decide +kernel
theorem dX11_laws_38 : decode cX11_laws 38 = .ok (.ifCond .lt 11, 3) := by decide +kernel
theorem dX11_laws_41 : decode cX11_laws 41 = .ok (.aload_n 0, 1) := by decide +kernel
theorem dX11_laws_42 : decode cX11_laws 42 = .ok (.invokevirtual 233, 3) := by decide +kernel
theorem dX11_laws_45 : decode cX11_laws 45 = .ok (.istore_n 1, 1) := by decide +kernel
theorem dX11_laws_46 : decode cX11_laws 46 = .ok (.goto (-16), 3) := by decide +kernel
theorem dX11_laws_49 : decode cX11_laws 49 = .ok (.aload_n 0, 1) := by decide +kernel
theorem dX11_laws_50 : decode cX11_laws 50 = .ok (.iconst 0, 1) := by decide +kernel
theorem dX11_laws_51 : decode cX11_laws 51 = .ok (.putfield 137, 3) := by decide +kernel
theorem dX11_laws_54 : decode cX11_laws 54 = .ok (.iload_n 1, 1) := by decide +kernel
theorem dX11_laws_55 : decode cX11_laws 55 = .ok (.ifCond .le 8, 3) := by decide +kernel
theorem dX11_laws_58 : decode cX11_laws 58 = .ok (.bipush (-10), 2) := by decide +kernel
theorem dX11_laws_60 : decode cX11_laws 60 = .ok (.iload_n 1, 1) := by decide +kernel
theorem dX11_laws_61 : decode cX11_laws 61 = .ok (.isub, 1) := by decide +kernel
theorem dX11_laws_62 : decode cX11_laws 62 = .ok (.ireturn, 1) := by decide +kernel
theorem dX11_laws_63 : decode cX11_laws 63 = .ok (.aload_n 0, 1) := by decide +kernel
theorem dX11_laws_64 : decode cX11_laws 64 = .ok (.aload_n 0, 1) := by decide +kernel
theorem dX11_laws_65 : decode cX11_laws 65 = .ok (.getfield 229, 3) := by decide +kernel
theorem dX11_laws_68 : decode cX11_laws 68 = .ok (.putfield 236, 3) := by decide +kernel
theorem dX11_laws_71 : decode cX11_laws 71 = .ok (.iconst 0, 1) := by decide +kernel
theorem dX11_laws_72 : decode cX11_laws 72 = .ok (.istore_n 2, 1) := by decide +kernel
theorem dX11_laws_73 : decode cX11_laws 73 = .ok (.iload_n 2, 1) := by decide +kernel
theorem dX11_laws_74 : decode cX11_laws 74 = .ok (.bipush 24, 2) := by decide +kernel
theorem dX11_laws_76 : decode cX11_laws 76 = .ok (.if_icmp .ge 21, 3) := by decide +kernel
theorem dX11_laws_79 : decode cX11_laws 79 = .ok (.aload_n 0, 1) := by decide +kernel
theorem dX11_laws_80 : decode cX11_laws 80 = .ok (.getfield 28, 3) := by decide +kernel
theorem dX11_laws_83 : decode cX11_laws 83 = .ok (.iload_n 2, 1) := by decide +kernel
theorem dX11_laws_84 : decode cX11_laws 84 = .ok (.aload_n 0, 1) := by decide +kernel
theorem dX11_laws_85 : decode cX11_laws 85 = .ok (.getfield 81, 3) := by decide +kernel
theorem dX11_laws_88 : decode cX11_laws 88 = .ok (.iload_n 2, 1) := by decide +kernel
theorem dX11_laws_89 : decode cX11_laws 89 = .ok (.iaload, 1) := by decide +kernel
theorem dX11_laws_90 : decode cX11_laws 90 = .ok (.iastore, 1) := by decide +kernel
theorem dX11_laws_91 : decode cX11_laws 91 = .ok (.iinc 2 1, 3) := by decide +kernel
theorem dX11_laws_94 : decode cX11_laws 94 = .ok (.goto (-21), 3) := by decide +kernel
theorem dX11_laws_97 : decode cX11_laws 97 = .ok (.aload_n 0, 1) := by decide +kernel
theorem dX11_laws_98 : decode cX11_laws 98 = .ok (.getfield 236, 3) := by decide +kernel
theorem dX11_laws_101 : decode cX11_laws 101 = .ok (.ireturn, 1) := by decide +kernel
theorem dX11_fault_0 : decode cX11_fault 0 = .ok (.aload_n 0, 1) := by decide +kernel
theorem dX11_fault_1 : decode cX11_fault 1 = .ok (.getfield 59, 3) := by decide +kernel
theorem dX11_fault_4 : decode cX11_fault 4 = .ok (.ireturn, 1) := by decide +kernel
theorem dX11_lawOf_0 : decode cX11_lawOf 0 = .ok (.iload_n 2, 1) := by decide +kernel
theorem dX11_lawOf_1 : decode cX11_lawOf 1 = .ok (.iconst 1, 1) := by decide +kernel
theorem dX11_lawOf_2 : decode cX11_lawOf 2 = .ok (.if_icmp .ne 7, 3) := by decide +kernel
theorem dX11_lawOf_5 : decode cX11_lawOf 5 = .ok (.iconst 1, 1) := by decide +kernel
theorem dX11_lawOf_6 : decode cX11_lawOf 6 = .ok (.goto 14, 3) := by decide +kernel
theorem dX11_lawOf_9 : decode cX11_lawOf 9 = .ok (.iload_n 2, 1) := by decide +kernel
theorem dX11_lawOf_10 : decode cX11_lawOf 10 = .ok (.iconst 2, 1) := by decide +kernel
theorem dX11_lawOf_11 : decode cX11_lawOf 11 = .ok (.if_icmp .ne 8, 3) := by decide +kernel
theorem dX11_lawOf_14 : decode cX11_lawOf 14 = .ok (.bipush 28, 2) := by decide +kernel
theorem dX11_lawOf_16 : decode cX11_lawOf 16 = .ok (.goto 4, 3) := by decide +kernel
theorem dX11_lawOf_19 : decode cX11_lawOf 19 = .ok (.iconst 2, 1) := by decide +kernel
theorem dX11_lawOf_20 : decode cX11_lawOf 20 = .ok (.istore_n 3, 1) := by decide +kernel
theorem dX11_lawOf_21 : decode cX11_lawOf 21 = .ok (.iconst 0, 1) := by decide +kernel
theorem dX11_lawOf_22 : decode cX11_lawOf 22 = .ok (.istore 4, 2) := by decide +kernel
theorem dX11_lawOf_24 : decode cX11_lawOf 24 = .ok (.iload 4, 2) := by decide +kernel
theorem dX11_lawOf_26 : decode cX11_lawOf 26 = .ok (.aload_n 0, 1) := by decide +kernel
theorem dX11_lawOf_27 : decode cX11_lawOf 27 = .ok (.getfield 236, 3) := by decide +kernel
theorem dX11_lawOf_30 : decode cX11_lawOf 30 = .ok (.if_icmp .ge 38, 3) := by decide +kernel
theorem dX11_lawOf_33 : decode cX11_lawOf 33 = .ok (.aload_n 0, 1) := by decide +kernel
theorem dX11_lawOf_34 : decode cX11_lawOf 34 = .ok (.getfield 28, 3) := by decide +kernel
theorem dX11_lawOf_37 : decode cX11_lawOf 37 = .ok (.iconst 4, 1) := by decide +kernel
theorem dX11_lawOf_38 : decode cX11_lawOf 38 = .ok (.iload 4, 2) := by decide +kernel
theorem dX11_lawOf_40 : decode cX11_lawOf 40 = .ok (.imul, 1) := by decide +kernel
theorem dX11_lawOf_41 : decode cX11_lawOf 41 = .ok (.iaload, 1) := by decide +kernel
theorem dX11_lawOf_42 : decode cX11_lawOf 42 = .ok (.iload_n 1, 1) := by decide +kernel
theorem dX11_lawOf_43 : decode cX11_lawOf 43 = .ok (.if_icmp .gt 17, 3) := by decide +kernel
theorem dX11_lawOf_46 : decode cX11_lawOf 46 = .ok (.aload_n 0, 1) := by decide +kernel
theorem dX11_lawOf_47 : decode cX11_lawOf 47 = .ok (.getfield 28, 3) := by decide +kernel
theorem dX11_lawOf_50 : decode cX11_lawOf 50 = .ok (.iconst 4, 1) := by decide +kernel
theorem dX11_lawOf_51 : decode cX11_lawOf 51 = .ok (.iload 4, 2) := by decide +kernel
theorem dX11_lawOf_53 : decode cX11_lawOf 53 = .ok (.imul, 1) := by decide +kernel
theorem dX11_lawOf_54 : decode cX11_lawOf 54 = .ok (.iload_n 2, 1) := by decide +kernel
theorem dX11_lawOf_55 : decode cX11_lawOf 55 = .ok (.iadd, 1) := by decide +kernel
theorem dX11_lawOf_56 : decode cX11_lawOf 56 = .ok (.iaload, 1) := by decide +kernel
theorem dX11_lawOf_57 : decode cX11_lawOf 57 = .ok (.goto 4, 3) := by decide +kernel
theorem dX11_lawOf_60 : decode cX11_lawOf 60 = .ok (.iload_n 3, 1) := by decide +kernel
theorem dX11_lawOf_61 : decode cX11_lawOf 61 = .ok (.istore_n 3, 1) := by decide +kernel
theorem dX11_lawOf_62 : decode cX11_lawOf 62 = .ok (.iinc 4 1, 3) := by decide +kernel
theorem dX11_lawOf_65 : decode cX11_lawOf 65 = .ok (.goto (-41), 3) := by decide +kernel
theorem dX11_lawOf_68 : decode cX11_lawOf 68 = .ok (.iload_n 3, 1) := by decide +kernel
theorem dX11_lawOf_69 : decode cX11_lawOf 69 = .ok (.ireturn, 1) := by decide +kernel
theorem dX11_told_0 : decode cX11_told 0 = .ok (.iload_n 1, 1) := by decide +kernel
theorem dX11_told_1 : decode cX11_told 1 = .ok (.tableswitch 69 0 5 #[39, 44, 49, 54, 59, 64], 39) := by decide +kernel
theorem dX11_told_40 : decode cX11_told 40 = .ok (.aload_n 0, 1) := by decide +kernel
theorem dX11_told_41 : decode cX11_told 41 = .ok (.getfield 124, 3) := by decide +kernel
theorem dX11_told_44 : decode cX11_told 44 = .ok (.ireturn, 1) := by decide +kernel
theorem dX11_told_45 : decode cX11_told 45 = .ok (.aload_n 0, 1) := by decide +kernel
theorem dX11_told_46 : decode cX11_told 46 = .ok (.getfield 131, 3) := by decide +kernel
theorem dX11_told_49 : decode cX11_told 49 = .ok (.ireturn, 1) := by decide +kernel
theorem dX11_told_50 : decode cX11_told 50 = .ok (.aload_n 0, 1) := by decide +kernel
theorem dX11_told_51 : decode cX11_told 51 = .ok (.getfield 236, 3) := by decide +kernel
theorem dX11_told_54 : decode cX11_told 54 = .ok (.ireturn, 1) := by decide +kernel
theorem dX11_told_55 : decode cX11_told 55 = .ok (.aload_n 0, 1) := by decide +kernel
theorem dX11_told_56 : decode cX11_told 56 = .ok (.getfield 223, 3) := by decide +kernel
theorem dX11_told_59 : decode cX11_told 59 = .ok (.ireturn, 1) := by decide +kernel
theorem dX11_told_60 : decode cX11_told 60 = .ok (.aload_n 0, 1) := by decide +kernel
theorem dX11_told_61 : decode cX11_told 61 = .ok (.getfield 137, 3) := by decide +kernel
theorem dX11_told_64 : decode cX11_told 64 = .ok (.ireturn, 1) := by decide +kernel
theorem dX11_told_65 : decode cX11_told 65 = .ok (.aload_n 0, 1) := by decide +kernel
theorem dX11_told_66 : decode cX11_told 66 = .ok (.getfield 226, 3) := by decide +kernel
theorem dX11_told_69 : decode cX11_told 69 = .ok (.ireturn, 1) := by decide +kernel
theorem dX11_told_70 : decode cX11_told 70 = .ok (.iload_n 1, 1) := by decide +kernel
theorem dX11_told_71 : decode cX11_told 71 = .ok (.i2l, 1) := by decide +kernel
theorem dX11_told_72 : decode cX11_told 72 = .ok (.ldc2_w 239, 3) := by decide +kernel
theorem dX11_told_75 : decode cX11_told 75 = .ok (.ldc2_w 134, 3) := by decide +kernel
theorem dX11_told_78 : decode cX11_told 78 = .ok (.invokestatic 127, 3) := by decide +kernel
theorem dX11_told_81 : decode cX11_told 81 = .ok (.ifCond .eq 17, 3) := by decide +kernel
theorem dX11_told_84 : decode cX11_told 84 = .ok (.aload_n 0, 1) := by decide +kernel
theorem dX11_told_85 : decode cX11_told 85 = .ok (.aload_n 0, 1) := by decide +kernel
theorem dX11_told_86 : decode cX11_told 86 = .ok (.getfield 223, 3) := by decide +kernel
theorem dX11_told_89 : decode cX11_told 89 = .ok (.iload_n 1, 1) := by decide +kernel
theorem dX11_told_90 : decode cX11_told 90 = .ok (.iconst 5, 1) := by decide +kernel
theorem dX11_told_91 : decode cX11_told 91 = .ok (.isub, 1) := by decide +kernel
theorem dX11_told_92 : decode cX11_told 92 = .ok (.invokevirtual 241, 3) := by decide +kernel
theorem dX11_told_95 : decode cX11_told 95 = .ok (.goto 5, 3) := by decide +kernel
theorem dX11_told_98 : decode cX11_told 98 = .ok (.ldc 136, 2) := by decide +kernel
theorem dX11_told_100 : decode cX11_told 100 = .ok (.ireturn, 1) := by decide +kernel
theorem dX11_witnessesOf_0 : decode cX11_witnessesOf 0 = .ok (.iconst 0, 1) := by decide +kernel
theorem dX11_witnessesOf_1 : decode cX11_witnessesOf 1 = .ok (.istore_n 2, 1) := by decide +kernel
theorem dX11_witnessesOf_2 : decode cX11_witnessesOf 2 = .ok (.iconst 0, 1) := by decide +kernel
theorem dX11_witnessesOf_3 : decode cX11_witnessesOf 3 = .ok (.istore_n 3, 1) := by decide +kernel
theorem dX11_witnessesOf_4 : decode cX11_witnessesOf 4 = .ok (.iload_n 3, 1) := by decide +kernel
theorem dX11_witnessesOf_5 : decode cX11_witnessesOf 5 = .ok (.aload_n 0, 1) := by decide +kernel
theorem dX11_witnessesOf_6 : decode cX11_witnessesOf 6 = .ok (.getfield 131, 3) := by decide +kernel
theorem dX11_witnessesOf_9 : decode cX11_witnessesOf 9 = .ok (.if_icmp .ge 29, 3) := by decide +kernel
theorem dX11_witnessesOf_12 : decode cX11_witnessesOf 12 = .ok (.iload_n 2, 1) := by decide +kernel
theorem dX11_witnessesOf_13 : decode cX11_witnessesOf 13 = .ok (.aload_n 0, 1) := by decide +kernel
theorem dX11_witnessesOf_14 : decode cX11_witnessesOf 14 = .ok (.getfield 19, 3) := by decide +kernel
theorem dX11_witnessesOf_17 : decode cX11_witnessesOf 17 = .ok (.iload_n 3, 1) := by decide +kernel
theorem dX11_witnessesOf_18 : decode cX11_witnessesOf 18 = .ok (.iaload, 1) := by decide +kernel
theorem dX11_witnessesOf_19 : decode cX11_witnessesOf 19 = .ok (.iload_n 1, 1) := by decide +kernel
theorem dX11_witnessesOf_20 : decode cX11_witnessesOf 20 = .ok (.if_icmp .ne 9, 3) := by decide +kernel
theorem dX11_witnessesOf_23 : decode cX11_witnessesOf 23 = .ok (.iconst 1, 1) := by decide +kernel
theorem dX11_witnessesOf_24 : decode cX11_witnessesOf 24 = .ok (.iload_n 3, 1) := by decide +kernel
theorem dX11_witnessesOf_25 : decode cX11_witnessesOf 25 = .ok (.ishl, 1) := by decide +kernel
theorem dX11_witnessesOf_26 : decode cX11_witnessesOf 26 = .ok (.goto 4, 3) := by decide +kernel
theorem dX11_witnessesOf_29 : decode cX11_witnessesOf 29 = .ok (.iconst 0, 1) := by decide +kernel
theorem dX11_witnessesOf_30 : decode cX11_witnessesOf 30 = .ok (.ior, 1) := by decide +kernel
theorem dX11_witnessesOf_31 : decode cX11_witnessesOf 31 = .ok (.istore_n 2, 1) := by decide +kernel
theorem dX11_witnessesOf_32 : decode cX11_witnessesOf 32 = .ok (.iinc 3 1, 3) := by decide +kernel
theorem dX11_witnessesOf_35 : decode cX11_witnessesOf 35 = .ok (.goto (-31), 3) := by decide +kernel
theorem dX11_witnessesOf_38 : decode cX11_witnessesOf 38 = .ok (.iload_n 2, 1) := by decide +kernel
theorem dX11_witnessesOf_39 : decode cX11_witnessesOf 39 = .ok (.ireturn, 1) := by decide +kernel
theorem dX11_suit_0 : decode cX11_suit 0 = .ok (.aload_n 0, 1) := by decide +kernel
theorem dX11_suit_1 : decode cX11_suit 1 = .ok (.iload_n 1, 1) := by decide +kernel
theorem dX11_suit_2 : decode cX11_suit 2 = .ok (.invokevirtual 244, 3) := by decide +kernel
theorem dX11_suit_5 : decode cX11_suit 5 = .ok (.ifCond .ne 6, 3) := by decide +kernel
theorem dX11_suit_8 : decode cX11_suit 8 = .ok (.ldc 248, 2) := by decide +kernel
theorem dX11_suit_10 : decode cX11_suit 10 = .ok (.ireturn, 1) := by decide +kernel
theorem dX11_suit_11 : decode cX11_suit 11 = .ok (.iload_n 2, 1) := by decide +kernel
theorem dX11_suit_12 : decode cX11_suit 12 = .ok (.tableswitch 81 0 5 #[40, 47, 54, 61, 68, 75], 40) := by decide +kernel
theorem dX11_suit_52 : decode cX11_suit 52 = .ok (.aload_n 0, 1) := by decide +kernel
theorem dX11_suit_53 : decode cX11_suit 53 = .ok (.getfield 7, 3) := by decide +kernel
theorem dX11_suit_56 : decode cX11_suit 56 = .ok (.iload_n 1, 1) := by decide +kernel
theorem dX11_suit_57 : decode cX11_suit 57 = .ok (.iaload, 1) := by decide +kernel
theorem dX11_suit_58 : decode cX11_suit 58 = .ok (.ireturn, 1) := by decide +kernel
theorem dX11_suit_59 : decode cX11_suit 59 = .ok (.aload_n 0, 1) := by decide +kernel
theorem dX11_suit_60 : decode cX11_suit 60 = .ok (.getfield 13, 3) := by decide +kernel
theorem dX11_suit_63 : decode cX11_suit 63 = .ok (.iload_n 1, 1) := by decide +kernel
theorem dX11_suit_64 : decode cX11_suit 64 = .ok (.iaload, 1) := by decide +kernel
theorem dX11_suit_65 : decode cX11_suit 65 = .ok (.ireturn, 1) := by decide +kernel
theorem dX11_suit_66 : decode cX11_suit 66 = .ok (.aload_n 0, 1) := by decide +kernel
theorem dX11_suit_67 : decode cX11_suit 67 = .ok (.getfield 16, 3) := by decide +kernel
theorem dX11_suit_70 : decode cX11_suit 70 = .ok (.iload_n 1, 1) := by decide +kernel
theorem dX11_suit_71 : decode cX11_suit 71 = .ok (.iaload, 1) := by decide +kernel
theorem dX11_suit_72 : decode cX11_suit 72 = .ok (.ireturn, 1) := by decide +kernel
theorem dX11_suit_73 : decode cX11_suit 73 = .ok (.aload_n 0, 1) := by decide +kernel
theorem dX11_suit_74 : decode cX11_suit 74 = .ok (.getfield 41, 3) := by decide +kernel
theorem dX11_suit_77 : decode cX11_suit 77 = .ok (.iload_n 1, 1) := by decide +kernel
theorem dX11_suit_78 : decode cX11_suit 78 = .ok (.iaload, 1) := by decide +kernel
theorem dX11_suit_79 : decode cX11_suit 79 = .ok (.ireturn, 1) := by decide +kernel
theorem dX11_suit_80 : decode cX11_suit 80 = .ok (.aload_n 0, 1) := by decide +kernel
theorem dX11_suit_81 : decode cX11_suit 81 = .ok (.getfield 44, 3) := by decide +kernel
theorem dX11_suit_84 : decode cX11_suit 84 = .ok (.iload_n 1, 1) := by decide +kernel
theorem dX11_suit_85 : decode cX11_suit 85 = .ok (.iaload, 1) := by decide +kernel
theorem dX11_suit_86 : decode cX11_suit 86 = .ok (.ireturn, 1) := by decide +kernel
theorem dX11_suit_87 : decode cX11_suit 87 = .ok (.aload_n 0, 1) := by decide +kernel
theorem dX11_suit_88 : decode cX11_suit 88 = .ok (.iload_n 1, 1) := by decide +kernel
theorem dX11_suit_89 : decode cX11_suit 89 = .ok (.invokevirtual 249, 3) := by decide +kernel
theorem dX11_suit_92 : decode cX11_suit 92 = .ok (.ireturn, 1) := by decide +kernel
theorem dX11_suit_93 : decode cX11_suit 93 = .ok (.ldc 136, 2) := by decide +kernel
theorem dX11_suit_95 : decode cX11_suit 95 = .ok (.ireturn, 1) := by decide +kernel
theorem dX11_freshOn_0 : decode cX11_freshOn 0 = .ok (.aload_n 0, 1) := by decide +kernel
theorem dX11_freshOn_1 : decode cX11_freshOn 1 = .ok (.getfield 25, 3) := by decide +kernel
theorem dX11_freshOn_4 : decode cX11_freshOn 4 = .ok (.iload_n 1, 1) := by decide +kernel
theorem dX11_freshOn_5 : decode cX11_freshOn 5 = .ok (.iaload, 1) := by decide +kernel
theorem dX11_freshOn_6 : decode cX11_freshOn 6 = .ok (.iconst 1, 1) := by decide +kernel
theorem dX11_freshOn_7 : decode cX11_freshOn 7 = .ok (.if_icmp .ne 12, 3) := by decide +kernel
theorem dX11_freshOn_10 : decode cX11_freshOn 10 = .ok (.aload_n 0, 1) := by decide +kernel
theorem dX11_freshOn_11 : decode cX11_freshOn 11 = .ok (.iload_n 2, 1) := by decide +kernel
theorem dX11_freshOn_12 : decode cX11_freshOn 12 = .ok (.iconst 1, 1) := by decide +kernel
theorem dX11_freshOn_13 : decode cX11_freshOn 13 = .ok (.invokevirtual 241, 3) := by decide +kernel
theorem dX11_freshOn_16 : decode cX11_freshOn 16 = .ok (.goto 19, 3) := by decide +kernel
theorem dX11_freshOn_19 : decode cX11_freshOn 19 = .ok (.aload_n 0, 1) := by decide +kernel
theorem dX11_freshOn_20 : decode cX11_freshOn 20 = .ok (.getfield 25, 3) := by decide +kernel
theorem dX11_freshOn_23 : decode cX11_freshOn 23 = .ok (.iload_n 1, 1) := by decide +kernel
theorem dX11_freshOn_24 : decode cX11_freshOn 24 = .ok (.iaload, 1) := by decide +kernel
theorem dX11_freshOn_25 : decode cX11_freshOn 25 = .ok (.iconst 3, 1) := by decide +kernel
theorem dX11_freshOn_26 : decode cX11_freshOn 26 = .ok (.if_icmp .ne 8, 3) := by decide +kernel
theorem dX11_freshOn_29 : decode cX11_freshOn 29 = .ok (.bipush 6, 2) := by decide +kernel
theorem dX11_freshOn_31 : decode cX11_freshOn 31 = .ok (.goto 4, 3) := by decide +kernel
theorem dX11_freshOn_34 : decode cX11_freshOn 34 = .ok (.iconst 3, 1) := by decide +kernel
theorem dX11_freshOn_35 : decode cX11_freshOn 35 = .ok (.istore_n 3, 1) := by decide +kernel
theorem dX11_freshOn_36 : decode cX11_freshOn 36 = .ok (.aload_n 0, 1) := by decide +kernel
theorem dX11_freshOn_37 : decode cX11_freshOn 37 = .ok (.getfield 22, 3) := by decide +kernel
theorem dX11_freshOn_40 : decode cX11_freshOn 40 = .ok (.iload_n 1, 1) := by decide +kernel
theorem dX11_freshOn_41 : decode cX11_freshOn 41 = .ok (.iaload, 1) := by decide +kernel
theorem dX11_freshOn_42 : decode cX11_freshOn 42 = .ok (.iload_n 3, 1) := by decide +kernel
theorem dX11_freshOn_43 : decode cX11_freshOn 43 = .ok (.imul, 1) := by decide +kernel
theorem dX11_freshOn_44 : decode cX11_freshOn 44 = .ok (.ireturn, 1) := by decide +kernel
theorem dX11_mayOn_0 : decode cX11_mayOn 0 = .ok (.aload_n 0, 1) := by decide +kernel
theorem dX11_mayOn_1 : decode cX11_mayOn 1 = .ok (.getfield 31, 3) := by decide +kernel
theorem dX11_mayOn_4 : decode cX11_mayOn 4 = .ok (.iload_n 1, 1) := by decide +kernel
theorem dX11_mayOn_5 : decode cX11_mayOn 5 = .ok (.iaload, 1) := by decide +kernel
theorem dX11_mayOn_6 : decode cX11_mayOn 6 = .ok (.ifCond .lt 30, 3) := by decide +kernel
theorem dX11_mayOn_9 : decode cX11_mayOn 9 = .ok (.aload_n 0, 1) := by decide +kernel
theorem dX11_mayOn_10 : decode cX11_mayOn 10 = .ok (.getfield 25, 3) := by decide +kernel
theorem dX11_mayOn_13 : decode cX11_mayOn 13 = .ok (.iload_n 1, 1) := by decide +kernel
theorem dX11_mayOn_14 : decode cX11_mayOn 14 = .ok (.iaload, 1) := by decide +kernel
theorem dX11_mayOn_15 : decode cX11_mayOn 15 = .ok (.iconst 2, 1) := by decide +kernel
theorem dX11_mayOn_16 : decode cX11_mayOn 16 = .ok (.if_icmp .eq 24, 3) := by decide +kernel
theorem dX11_mayOn_19 : decode cX11_mayOn 19 = .ok (.iload_n 2, 1) := by decide +kernel
theorem dX11_mayOn_20 : decode cX11_mayOn 20 = .ok (.aload_n 0, 1) := by decide +kernel
theorem dX11_mayOn_21 : decode cX11_mayOn 21 = .ok (.getfield 31, 3) := by decide +kernel
theorem dX11_mayOn_24 : decode cX11_mayOn 24 = .ok (.iload_n 1, 1) := by decide +kernel
theorem dX11_mayOn_25 : decode cX11_mayOn 25 = .ok (.iaload, 1) := by decide +kernel
theorem dX11_mayOn_26 : decode cX11_mayOn 26 = .ok (.aload_n 0, 1) := by decide +kernel
theorem dX11_mayOn_27 : decode cX11_mayOn 27 = .ok (.iload_n 2, 1) := by decide +kernel
theorem dX11_mayOn_28 : decode cX11_mayOn 28 = .ok (.iconst 2, 1) := by decide +kernel
theorem dX11_mayOn_29 : decode cX11_mayOn 29 = .ok (.invokevirtual 241, 3) := by decide +kernel
theorem dX11_mayOn_32 : decode cX11_mayOn 32 = .ok (.iadd, 1) := by decide +kernel
theorem dX11_mayOn_33 : decode cX11_mayOn 33 = .ok (.if_icmp .lt 7, 3) := by decide +kernel
theorem dX11_mayOn_36 : decode cX11_mayOn 36 = .ok (.iconst 1, 1) := by decide +kernel
theorem dX11_mayOn_37 : decode cX11_mayOn 37 = .ok (.goto 4, 3) := by decide +kernel
theorem dX11_mayOn_40 : decode cX11_mayOn 40 = .ok (.iconst 0, 1) := by decide +kernel
theorem dX11_mayOn_41 : decode cX11_mayOn 41 = .ok (.istore_n 3, 1) := by decide +kernel
theorem dX11_mayOn_42 : decode cX11_mayOn 42 = .ok (.iload_n 3, 1) := by decide +kernel
theorem dX11_mayOn_43 : decode cX11_mayOn 43 = .ok (.ifCond .eq 16, 3) := by decide +kernel
theorem dX11_mayOn_46 : decode cX11_mayOn 46 = .ok (.aload_n 0, 1) := by decide +kernel
theorem dX11_mayOn_47 : decode cX11_mayOn 47 = .ok (.getfield 37, 3) := by decide +kernel
theorem dX11_mayOn_50 : decode cX11_mayOn 50 = .ok (.iload_n 1, 1) := by decide +kernel
theorem dX11_mayOn_51 : decode cX11_mayOn 51 = .ok (.baload, 1) := by decide +kernel
theorem dX11_mayOn_52 : decode cX11_mayOn 52 = .ok (.ifCond .ne 7, 3) := by decide +kernel
theorem dX11_mayOn_55 : decode cX11_mayOn 55 = .ok (.iconst 1, 1) := by decide +kernel
theorem dX11_mayOn_56 : decode cX11_mayOn 56 = .ok (.goto 4, 3) := by decide +kernel
theorem dX11_mayOn_59 : decode cX11_mayOn 59 = .ok (.iconst 0, 1) := by decide +kernel
theorem dX11_mayOn_60 : decode cX11_mayOn 60 = .ok (.ireturn, 1) := by decide +kernel
theorem dX11_mayNow_0 : decode cX11_mayNow 0 = .ok (.aload_n 0, 1) := by decide +kernel
theorem dX11_mayNow_1 : decode cX11_mayNow 1 = .ok (.iload_n 1, 1) := by decide +kernel
theorem dX11_mayNow_2 : decode cX11_mayNow 2 = .ok (.aload_n 0, 1) := by decide +kernel
theorem dX11_mayNow_3 : decode cX11_mayNow 3 = .ok (.getfield 223, 3) := by decide +kernel
theorem dX11_mayNow_6 : decode cX11_mayNow 6 = .ok (.invokevirtual 253, 3) := by decide +kernel
theorem dX11_mayNow_9 : decode cX11_mayNow 9 = .ok (.ifCond .eq 37, 3) := by decide +kernel
theorem dX11_mayNow_12 : decode cX11_mayNow 12 = .ok (.aload_n 0, 1) := by decide +kernel
theorem dX11_mayNow_13 : decode cX11_mayNow 13 = .ok (.getfield 41, 3) := by decide +kernel
theorem dX11_mayNow_16 : decode cX11_mayNow 16 = .ok (.aload_n 0, 1) := by decide +kernel
theorem dX11_mayNow_17 : decode cX11_mayNow 17 = .ok (.getfield 19, 3) := by decide +kernel
theorem dX11_mayNow_20 : decode cX11_mayNow 20 = .ok (.iload_n 1, 1) := by decide +kernel
theorem dX11_mayNow_21 : decode cX11_mayNow 21 = .ok (.iaload, 1) := by decide +kernel
theorem dX11_mayNow_22 : decode cX11_mayNow 22 = .ok (.iaload, 1) := by decide +kernel
theorem dX11_mayNow_23 : decode cX11_mayNow 23 = .ok (.ifCond .ne 23, 3) := by decide +kernel
theorem dX11_mayNow_26 : decode cX11_mayNow 26 = .ok (.aload_n 0, 1) := by decide +kernel
theorem dX11_mayNow_27 : decode cX11_mayNow 27 = .ok (.getfield 226, 3) := by decide +kernel
theorem dX11_mayNow_30 : decode cX11_mayNow 30 = .ok (.aload_n 0, 1) := by decide +kernel
theorem dX11_mayNow_31 : decode cX11_mayNow 31 = .ok (.aload_n 0, 1) := by decide +kernel
theorem dX11_mayNow_32 : decode cX11_mayNow 32 = .ok (.getfield 223, 3) := by decide +kernel
theorem dX11_mayNow_35 : decode cX11_mayNow 35 = .ok (.iconst 3, 1) := by decide +kernel
theorem dX11_mayNow_36 : decode cX11_mayNow 36 = .ok (.invokevirtual 241, 3) := by decide +kernel
theorem dX11_mayNow_39 : decode cX11_mayNow 39 = .ok (.if_icmp .ge 7, 3) := by decide +kernel
theorem dX11_mayNow_42 : decode cX11_mayNow 42 = .ok (.iconst 1, 1) := by decide +kernel
theorem dX11_mayNow_43 : decode cX11_mayNow 43 = .ok (.goto 4, 3) := by decide +kernel
theorem dX11_mayNow_46 : decode cX11_mayNow 46 = .ok (.iconst 0, 1) := by decide +kernel
theorem dX11_mayNow_47 : decode cX11_mayNow 47 = .ok (.ireturn, 1) := by decide +kernel
theorem dX11_witness_0 : decode cX11_witness 0 = .ok (.aload_n 0, 1) := by decide +kernel
theorem dX11_witness_1 : decode cX11_witness 1 = .ok (.iload_n 1, 1) := by decide +kernel
theorem dX11_witness_2 : decode cX11_witness 2 = .ok (.invokevirtual 257, 3) := by decide +kernel
theorem dX11_witness_5 : decode cX11_witness 5 = .ok (.ifCond .ne 6, 3) := by decide +kernel
theorem dX11_witness_8 : decode cX11_witness 8 = .ok (.ldc 248, 2) := by decide +kernel
theorem dX11_witness_10 : decode cX11_witness 10 = .ok (.ireturn, 1) := by decide +kernel
theorem dX11_witness_11 : decode cX11_witness 11 = .ok (.iload_n 2, 1) := by decide +kernel
theorem dX11_witness_12 : decode cX11_witness 12 = .ok (.tableswitch 122 0 7 #[48, 55, 62, 69, 79, 86, 93, 108], 48) := by decide +kernel
theorem dX11_witness_60 : decode cX11_witness 60 = .ok (.aload_n 0, 1) := by decide +kernel
theorem dX11_witness_61 : decode cX11_witness 61 = .ok (.getfield 19, 3) := by decide +kernel
theorem dX11_witness_64 : decode cX11_witness 64 = .ok (.iload_n 1, 1) := by decide +kernel
theorem dX11_witness_65 : decode cX11_witness 65 = .ok (.iaload, 1) := by decide +kernel
theorem dX11_witness_66 : decode cX11_witness 66 = .ok (.ireturn, 1) := by decide +kernel
theorem dX11_witness_67 : decode cX11_witness 67 = .ok (.aload_n 0, 1) := by decide +kernel
theorem dX11_witness_68 : decode cX11_witness 68 = .ok (.getfield 22, 3) := by decide +kernel
theorem dX11_witness_71 : decode cX11_witness 71 = .ok (.iload_n 1, 1) := by decide +kernel
theorem dX11_witness_72 : decode cX11_witness 72 = .ok (.iaload, 1) := by decide +kernel
theorem dX11_witness_73 : decode cX11_witness 73 = .ok (.ireturn, 1) := by decide +kernel
theorem dX11_witness_74 : decode cX11_witness 74 = .ok (.aload_n 0, 1) := by decide +kernel
theorem dX11_witness_75 : decode cX11_witness 75 = .ok (.getfield 25, 3) := by decide +kernel
theorem dX11_witness_78 : decode cX11_witness 78 = .ok (.iload_n 1, 1) := by decide +kernel
theorem dX11_witness_79 : decode cX11_witness 79 = .ok (.iaload, 1) := by decide +kernel
theorem dX11_witness_80 : decode cX11_witness 80 = .ok (.ireturn, 1) := by decide +kernel
theorem dX11_witness_81 : decode cX11_witness 81 = .ok (.aload_n 0, 1) := by decide +kernel
theorem dX11_witness_82 : decode cX11_witness 82 = .ok (.iload_n 1, 1) := by decide +kernel
theorem dX11_witness_83 : decode cX11_witness 83 = .ok (.aload_n 0, 1) := by decide +kernel
theorem dX11_witness_84 : decode cX11_witness 84 = .ok (.getfield 223, 3) := by decide +kernel
theorem dX11_witness_87 : decode cX11_witness 87 = .ok (.invokevirtual 260, 3) := by decide +kernel
theorem dX11_witness_90 : decode cX11_witness 90 = .ok (.ireturn, 1) := by decide +kernel
theorem dX11_witness_91 : decode cX11_witness 91 = .ok (.aload_n 0, 1) := by decide +kernel
theorem dX11_witness_92 : decode cX11_witness 92 = .ok (.getfield 31, 3) := by decide +kernel
theorem dX11_witness_95 : decode cX11_witness 95 = .ok (.iload_n 1, 1) := by decide +kernel
theorem dX11_witness_96 : decode cX11_witness 96 = .ok (.iaload, 1) := by decide +kernel
theorem dX11_witness_97 : decode cX11_witness 97 = .ok (.ireturn, 1) := by decide +kernel
theorem dX11_witness_98 : decode cX11_witness 98 = .ok (.aload_n 0, 1) := by decide +kernel
theorem dX11_witness_99 : decode cX11_witness 99 = .ok (.getfield 34, 3) := by decide +kernel
theorem dX11_witness_102 : decode cX11_witness 102 = .ok (.iload_n 1, 1) := by decide +kernel
theorem dX11_witness_103 : decode cX11_witness 103 = .ok (.iaload, 1) := by decide +kernel
theorem dX11_witness_104 : decode cX11_witness 104 = .ok (.ireturn, 1) := by decide +kernel
theorem dX11_witness_105 : decode cX11_witness 105 = .ok (.aload_n 0, 1) := by decide +kernel
theorem dX11_witness_106 : decode cX11_witness 106 = .ok (.getfield 37, 3) := by decide +kernel
theorem dX11_witness_109 : decode cX11_witness 109 = .ok (.iload_n 1, 1) := by decide +kernel
theorem dX11_witness_110 : decode cX11_witness 110 = .ok (.baload, 1) := by decide +kernel
theorem dX11_witness_111 : decode cX11_witness 111 = .ok (.ifCond .eq 7, 3) := by decide +kernel
theorem dX11_witness_114 : decode cX11_witness 114 = .ok (.iconst 1, 1) := by decide +kernel
theorem dX11_witness_115 : decode cX11_witness 115 = .ok (.goto 4, 3) := by decide +kernel
theorem dX11_witness_118 : decode cX11_witness 118 = .ok (.iconst 0, 1) := by decide +kernel
theorem dX11_witness_119 : decode cX11_witness 119 = .ok (.ireturn, 1) := by decide +kernel
theorem dX11_witness_120 : decode cX11_witness 120 = .ok (.aload_n 0, 1) := by decide +kernel
theorem dX11_witness_121 : decode cX11_witness 121 = .ok (.iload_n 1, 1) := by decide +kernel
theorem dX11_witness_122 : decode cX11_witness 122 = .ok (.invokevirtual 263, 3) := by decide +kernel
theorem dX11_witness_125 : decode cX11_witness 125 = .ok (.ifCond .eq 7, 3) := by decide +kernel
theorem dX11_witness_128 : decode cX11_witness 128 = .ok (.iconst 1, 1) := by decide +kernel
theorem dX11_witness_129 : decode cX11_witness 129 = .ok (.goto 4, 3) := by decide +kernel
theorem dX11_witness_132 : decode cX11_witness 132 = .ok (.iconst 0, 1) := by decide +kernel
theorem dX11_witness_133 : decode cX11_witness 133 = .ok (.ireturn, 1) := by decide +kernel
theorem dX11_witness_134 : decode cX11_witness 134 = .ok (.ldc 136, 2) := by decide +kernel
theorem dX11_witness_136 : decode cX11_witness 136 = .ok (.ireturn, 1) := by decide +kernel
theorem dX11_weight_0 : decode cX11_weight 0 = .ok (.aload_n 0, 1) := by decide +kernel
theorem dX11_weight_1 : decode cX11_weight 1 = .ok (.iload_n 1, 1) := by decide +kernel
theorem dX11_weight_2 : decode cX11_weight 2 = .ok (.invokevirtual 244, 3) := by decide +kernel
theorem dX11_weight_5 : decode cX11_weight 5 = .ok (.ifCond .ne 6, 3) := by decide +kernel
theorem dX11_weight_8 : decode cX11_weight 8 = .ok (.ldc 248, 2) := by decide +kernel
theorem dX11_weight_10 : decode cX11_weight 10 = .ok (.ireturn, 1) := by decide +kernel
theorem dX11_weight_11 : decode cX11_weight 11 = .ok (.iload_n 2, 1) := by decide +kernel
theorem dX11_weight_12 : decode cX11_weight 12 = .ok (.iconst (-1), 1) := by decide +kernel
theorem dX11_weight_13 : decode cX11_weight 13 = .ok (.if_icmp .ne 12, 3) := by decide +kernel
theorem dX11_weight_16 : decode cX11_weight 16 = .ok (.aload_n 0, 1) := by decide +kernel
theorem dX11_weight_17 : decode cX11_weight 17 = .ok (.getfield 47, 3) := by decide +kernel
theorem dX11_weight_20 : decode cX11_weight 20 = .ok (.iload_n 1, 1) := by decide +kernel
theorem dX11_weight_21 : decode cX11_weight 21 = .ok (.iaload, 1) := by decide +kernel
theorem dX11_weight_22 : decode cX11_weight 22 = .ok (.goto 32, 3) := by decide +kernel
theorem dX11_weight_25 : decode cX11_weight 25 = .ok (.iload_n 2, 1) := by decide +kernel
theorem dX11_weight_26 : decode cX11_weight 26 = .ok (.i2l, 1) := by decide +kernel
theorem dX11_weight_27 : decode cX11_weight 27 = .ok (.lconst 0, 1) := by decide +kernel
theorem dX11_weight_28 : decode cX11_weight 28 = .ok (.ldc2_w 266, 3) := by decide +kernel
theorem dX11_weight_31 : decode cX11_weight 31 = .ok (.invokestatic 127, 3) := by decide +kernel
theorem dX11_weight_34 : decode cX11_weight 34 = .ok (.ifCond .eq 18, 3) := by decide +kernel
theorem dX11_weight_37 : decode cX11_weight 37 = .ok (.aload_n 0, 1) := by decide +kernel
theorem dX11_weight_38 : decode cX11_weight 38 = .ok (.getfield 50, 3) := by decide +kernel
theorem dX11_weight_41 : decode cX11_weight 41 = .ok (.sipush 400, 3) := by decide +kernel
theorem dX11_weight_44 : decode cX11_weight 44 = .ok (.iload_n 1, 1) := by decide +kernel
theorem dX11_weight_45 : decode cX11_weight 45 = .ok (.imul, 1) := by decide +kernel
theorem dX11_weight_46 : decode cX11_weight 46 = .ok (.iload_n 2, 1) := by decide +kernel
theorem dX11_weight_47 : decode cX11_weight 47 = .ok (.iadd, 1) := by decide +kernel
theorem dX11_weight_48 : decode cX11_weight 48 = .ok (.iaload, 1) := by decide +kernel
theorem dX11_weight_49 : decode cX11_weight 49 = .ok (.goto 5, 3) := by decide +kernel
theorem dX11_weight_52 : decode cX11_weight 52 = .ok (.ldc 136, 2) := by decide +kernel
theorem dX11_weight_54 : decode cX11_weight 54 = .ok (.ireturn, 1) := by decide +kernel
theorem dX11_isEnough_0 : decode cX11_isEnough 0 = .ok (.aload_n 0, 1) := by decide +kernel
theorem dX11_isEnough_1 : decode cX11_isEnough 1 = .ok (.getfield 47, 3) := by decide +kernel
theorem dX11_isEnough_4 : decode cX11_isEnough 4 = .ok (.iload_n 1, 1) := by decide +kernel
theorem dX11_isEnough_5 : decode cX11_isEnough 5 = .ok (.iaload, 1) := by decide +kernel
theorem dX11_isEnough_6 : decode cX11_isEnough 6 = .ok (.iconst 3, 1) := by decide +kernel
theorem dX11_isEnough_7 : decode cX11_isEnough 7 = .ok (.aload_n 0, 1) := by decide +kernel
theorem dX11_isEnough_8 : decode cX11_isEnough 8 = .ok (.getfield 7, 3) := by decide +kernel
theorem dX11_isEnough_11 : decode cX11_isEnough 11 = .ok (.iload_n 1, 1) := by decide +kernel
theorem dX11_isEnough_12 : decode cX11_isEnough 12 = .ok (.iaload, 1) := by decide +kernel
theorem dX11_isEnough_13 : decode cX11_isEnough 13 = .ok (.imul, 1) := by decide +kernel
theorem dX11_isEnough_14 : decode cX11_isEnough 14 = .ok (.if_icmp .lt 7, 3) := by decide +kernel
theorem dX11_isEnough_17 : decode cX11_isEnough 17 = .ok (.iconst 1, 1) := by decide +kernel
theorem dX11_isEnough_18 : decode cX11_isEnough 18 = .ok (.goto 4, 3) := by decide +kernel
theorem dX11_isEnough_21 : decode cX11_isEnough 21 = .ok (.iconst 0, 1) := by decide +kernel
theorem dX11_isEnough_22 : decode cX11_isEnough 22 = .ok (.ireturn, 1) := by decide +kernel
theorem dX11_lookAt_0 : decode cX11_lookAt 0 = .ok (.aload_n 0, 1) := by decide +kernel
theorem dX11_lookAt_1 : decode cX11_lookAt 1 = .ok (.getfield 41, 3) := by decide +kernel
theorem dX11_lookAt_4 : decode cX11_lookAt 4 = .ok (.iload_n 1, 1) := by decide +kernel
theorem dX11_lookAt_5 : decode cX11_lookAt 5 = .ok (.iaload, 1) := by decide +kernel
theorem dX11_lookAt_6 : decode cX11_lookAt 6 = .ok (.ifCond .ne 52, 3) := by decide +kernel
theorem dX11_lookAt_9 : decode cX11_lookAt 9 = .ok (.aload_n 0, 1) := by decide +kernel
theorem dX11_lookAt_10 : decode cX11_lookAt 10 = .ok (.iload_n 1, 1) := by decide +kernel
theorem dX11_lookAt_11 : decode cX11_lookAt 11 = .ok (.invokevirtual 268, 3) := by decide +kernel
theorem dX11_lookAt_14 : decode cX11_lookAt 14 = .ok (.ifCond .eq 44, 3) := by decide +kernel
theorem dX11_lookAt_17 : decode cX11_lookAt 17 = .ok (.aload_n 0, 1) := by decide +kernel
theorem dX11_lookAt_18 : decode cX11_lookAt 18 = .ok (.getfield 16, 3) := by decide +kernel
theorem dX11_lookAt_21 : decode cX11_lookAt 21 = .ok (.iload_n 1, 1) := by decide +kernel
theorem dX11_lookAt_22 : decode cX11_lookAt 22 = .ok (.iaload, 1) := by decide +kernel
theorem dX11_lookAt_23 : decode cX11_lookAt 23 = .ok (.ifCond .lt 18, 3) := by decide +kernel
theorem dX11_lookAt_26 : decode cX11_lookAt 26 = .ok (.aload_n 0, 1) := by decide +kernel
theorem dX11_lookAt_27 : decode cX11_lookAt 27 = .ok (.getfield 41, 3) := by decide +kernel
theorem dX11_lookAt_30 : decode cX11_lookAt 30 = .ok (.aload_n 0, 1) := by decide +kernel
theorem dX11_lookAt_31 : decode cX11_lookAt 31 = .ok (.getfield 16, 3) := by decide +kernel
theorem dX11_lookAt_34 : decode cX11_lookAt 34 = .ok (.iload_n 1, 1) := by decide +kernel
theorem dX11_lookAt_35 : decode cX11_lookAt 35 = .ok (.iaload, 1) := by decide +kernel
theorem dX11_lookAt_36 : decode cX11_lookAt 36 = .ok (.iaload, 1) := by decide +kernel
theorem dX11_lookAt_37 : decode cX11_lookAt 37 = .ok (.iconst 1, 1) := by decide +kernel
theorem dX11_lookAt_38 : decode cX11_lookAt 38 = .ok (.if_icmp .ne 20, 3) := by decide +kernel
theorem dX11_lookAt_41 : decode cX11_lookAt 41 = .ok (.aload_n 0, 1) := by decide +kernel
theorem dX11_lookAt_42 : decode cX11_lookAt 42 = .ok (.getfield 41, 3) := by decide +kernel
theorem dX11_lookAt_45 : decode cX11_lookAt 45 = .ok (.iload_n 1, 1) := by decide +kernel
theorem dX11_lookAt_46 : decode cX11_lookAt 46 = .ok (.iconst 1, 1) := by decide +kernel
theorem dX11_lookAt_47 : decode cX11_lookAt 47 = .ok (.iastore, 1) := by decide +kernel
theorem dX11_lookAt_48 : decode cX11_lookAt 48 = .ok (.aload_n 0, 1) := by decide +kernel
theorem dX11_lookAt_49 : decode cX11_lookAt 49 = .ok (.getfield 44, 3) := by decide +kernel
theorem dX11_lookAt_52 : decode cX11_lookAt 52 = .ok (.iload_n 1, 1) := by decide +kernel
theorem dX11_lookAt_53 : decode cX11_lookAt 53 = .ok (.aload_n 0, 1) := by decide +kernel
theorem dX11_lookAt_54 : decode cX11_lookAt 54 = .ok (.getfield 223, 3) := by decide +kernel
theorem dX11_lookAt_57 : decode cX11_lookAt 57 = .ok (.iastore, 1) := by decide +kernel
theorem dX11_lookAt_58 : decode cX11_lookAt 58 = .ok (.return_, 1) := by decide +kernel
theorem dX11_speak_0 : decode cX11_speak 0 = .ok (.aload_n 0, 1) := by decide +kernel
theorem dX11_speak_1 : decode cX11_speak 1 = .ok (.getfield 47, 3) := by decide +kernel
theorem dX11_speak_4 : decode cX11_speak 4 = .ok (.aload_n 0, 1) := by decide +kernel
theorem dX11_speak_5 : decode cX11_speak 5 = .ok (.getfield 19, 3) := by decide +kernel
theorem dX11_speak_8 : decode cX11_speak 8 = .ok (.iload_n 1, 1) := by decide +kernel
theorem dX11_speak_9 : decode cX11_speak 9 = .ok (.iaload, 1) := by decide +kernel
theorem dX11_speak_10 : decode cX11_speak 10 = .ok (.dup2, 1) := by decide +kernel
theorem dX11_speak_11 : decode cX11_speak 11 = .ok (.iaload, 1) := by decide +kernel
theorem dX11_speak_12 : decode cX11_speak 12 = .ok (.aload_n 0, 1) := by decide +kernel
theorem dX11_speak_13 : decode cX11_speak 13 = .ok (.iload_n 1, 1) := by decide +kernel
theorem dX11_speak_14 : decode cX11_speak 14 = .ok (.aload_n 0, 1) := by decide +kernel
theorem dX11_speak_15 : decode cX11_speak 15 = .ok (.getfield 223, 3) := by decide +kernel
theorem dX11_speak_18 : decode cX11_speak 18 = .ok (.invokevirtual 260, 3) := by decide +kernel
theorem dX11_speak_21 : decode cX11_speak 21 = .ok (.iadd, 1) := by decide +kernel
theorem dX11_speak_22 : decode cX11_speak 22 = .ok (.iastore, 1) := by decide +kernel
theorem dX11_speak_23 : decode cX11_speak 23 = .ok (.aload_n 0, 1) := by decide +kernel
theorem dX11_speak_24 : decode cX11_speak 24 = .ok (.getfield 31, 3) := by decide +kernel
theorem dX11_speak_27 : decode cX11_speak 27 = .ok (.iload_n 1, 1) := by decide +kernel
theorem dX11_speak_28 : decode cX11_speak 28 = .ok (.aload_n 0, 1) := by decide +kernel
theorem dX11_speak_29 : decode cX11_speak 29 = .ok (.getfield 223, 3) := by decide +kernel
theorem dX11_speak_32 : decode cX11_speak 32 = .ok (.iastore, 1) := by decide +kernel
theorem dX11_speak_33 : decode cX11_speak 33 = .ok (.aload_n 0, 1) := by decide +kernel
theorem dX11_speak_34 : decode cX11_speak 34 = .ok (.getfield 34, 3) := by decide +kernel
theorem dX11_speak_37 : decode cX11_speak 37 = .ok (.iload_n 1, 1) := by decide +kernel
theorem dX11_speak_38 : decode cX11_speak 38 = .ok (.dup2, 1) := by decide +kernel
theorem dX11_speak_39 : decode cX11_speak 39 = .ok (.iaload, 1) := by decide +kernel
theorem dX11_speak_40 : decode cX11_speak 40 = .ok (.iconst 1, 1) := by decide +kernel
theorem dX11_speak_41 : decode cX11_speak 41 = .ok (.iadd, 1) := by decide +kernel
theorem dX11_speak_42 : decode cX11_speak 42 = .ok (.iastore, 1) := by decide +kernel
theorem dX11_speak_43 : decode cX11_speak 43 = .ok (.aload_n 0, 1) := by decide +kernel
theorem dX11_speak_44 : decode cX11_speak 44 = .ok (.dup, 1) := by decide +kernel
theorem dX11_speak_45 : decode cX11_speak 45 = .ok (.getfield 226, 3) := by decide +kernel
theorem dX11_speak_48 : decode cX11_speak 48 = .ok (.iconst 1, 1) := by decide +kernel
theorem dX11_speak_49 : decode cX11_speak 49 = .ok (.iadd, 1) := by decide +kernel
theorem dX11_speak_50 : decode cX11_speak 50 = .ok (.putfield 226, 3) := by decide +kernel
theorem dX11_speak_53 : decode cX11_speak 53 = .ok (.aload_n 0, 1) := by decide +kernel
theorem dX11_speak_54 : decode cX11_speak 54 = .ok (.aload_n 0, 1) := by decide +kernel
theorem dX11_speak_55 : decode cX11_speak 55 = .ok (.getfield 19, 3) := by decide +kernel
theorem dX11_speak_58 : decode cX11_speak 58 = .ok (.iload_n 1, 1) := by decide +kernel
theorem dX11_speak_59 : decode cX11_speak 59 = .ok (.iaload, 1) := by decide +kernel
theorem dX11_speak_60 : decode cX11_speak 60 = .ok (.invokevirtual 271, 3) := by decide +kernel
theorem dX11_speak_63 : decode cX11_speak 63 = .ok (.return_, 1) := by decide +kernel
theorem dX11_say_0 : decode cX11_say 0 = .ok (.aload_n 0, 1) := by decide +kernel
theorem dX11_say_1 : decode cX11_say 1 = .ok (.iload_n 1, 1) := by decide +kernel
theorem dX11_say_2 : decode cX11_say 2 = .ok (.invokevirtual 257, 3) := by decide +kernel
theorem dX11_say_5 : decode cX11_say 5 = .ok (.ifCond .ne 6, 3) := by decide +kernel
theorem dX11_say_8 : decode cX11_say 8 = .ok (.ldc 248, 2) := by decide +kernel
theorem dX11_say_10 : decode cX11_say 10 = .ok (.ireturn, 1) := by decide +kernel
theorem dX11_say_11 : decode cX11_say 11 = .ok (.aload_n 0, 1) := by decide +kernel
theorem dX11_say_12 : decode cX11_say 12 = .ok (.iload_n 1, 1) := by decide +kernel
theorem dX11_say_13 : decode cX11_say 13 = .ok (.invokevirtual 263, 3) := by decide +kernel
theorem dX11_say_16 : decode cX11_say 16 = .ok (.ifCond .ne 6, 3) := by decide +kernel
theorem dX11_say_19 : decode cX11_say 19 = .ok (.ldc 232, 2) := by decide +kernel
theorem dX11_say_21 : decode cX11_say 21 = .ok (.ireturn, 1) := by decide +kernel
theorem dX11_say_22 : decode cX11_say 22 = .ok (.aload_n 0, 1) := by decide +kernel
theorem dX11_say_23 : decode cX11_say 23 = .ok (.iload_n 1, 1) := by decide +kernel
theorem dX11_say_24 : decode cX11_say 24 = .ok (.invokevirtual 275, 3) := by decide +kernel
theorem dX11_say_27 : decode cX11_say 27 = .ok (.aload_n 0, 1) := by decide +kernel
theorem dX11_say_28 : decode cX11_say 28 = .ok (.getfield 41, 3) := by decide +kernel
theorem dX11_say_31 : decode cX11_say 31 = .ok (.aload_n 0, 1) := by decide +kernel
theorem dX11_say_32 : decode cX11_say 32 = .ok (.getfield 19, 3) := by decide +kernel
theorem dX11_say_35 : decode cX11_say 35 = .ok (.iload_n 1, 1) := by decide +kernel
theorem dX11_say_36 : decode cX11_say 36 = .ok (.iaload, 1) := by decide +kernel
theorem dX11_say_37 : decode cX11_say 37 = .ok (.iaload, 1) := by decide +kernel
theorem dX11_say_38 : decode cX11_say 38 = .ok (.ireturn, 1) := by decide +kernel
theorem dX11_strike_0 : decode cX11_strike 0 = .ok (.aload_n 0, 1) := by decide +kernel
theorem dX11_strike_1 : decode cX11_strike 1 = .ok (.iload_n 1, 1) := by decide +kernel
theorem dX11_strike_2 : decode cX11_strike 2 = .ok (.invokevirtual 257, 3) := by decide +kernel
theorem dX11_strike_5 : decode cX11_strike 5 = .ok (.ifCond .ne 6, 3) := by decide +kernel
theorem dX11_strike_8 : decode cX11_strike 8 = .ok (.ldc 248, 2) := by decide +kernel
theorem dX11_strike_10 : decode cX11_strike 10 = .ok (.ireturn, 1) := by decide +kernel
theorem dX11_strike_11 : decode cX11_strike 11 = .ok (.aload_n 0, 1) := by decide +kernel
theorem dX11_strike_12 : decode cX11_strike 12 = .ok (.getfield 37, 3) := by decide +kernel
theorem dX11_strike_15 : decode cX11_strike 15 = .ok (.iload_n 1, 1) := by decide +kernel
theorem dX11_strike_16 : decode cX11_strike 16 = .ok (.baload, 1) := by decide +kernel
theorem dX11_strike_17 : decode cX11_strike 17 = .ok (.ifCond .eq 7, 3) := by decide +kernel
theorem dX11_strike_20 : decode cX11_strike 20 = .ok (.iconst 1, 1) := by decide +kernel
theorem dX11_strike_21 : decode cX11_strike 21 = .ok (.goto 4, 3) := by decide +kernel
theorem dX11_strike_24 : decode cX11_strike 24 = .ok (.iconst 0, 1) := by decide +kernel
theorem dX11_strike_25 : decode cX11_strike 25 = .ok (.istore_n 3, 1) := by decide +kernel
theorem dX11_strike_26 : decode cX11_strike 26 = .ok (.aload_n 0, 1) := by decide +kernel
theorem dX11_strike_27 : decode cX11_strike 27 = .ok (.getfield 37, 3) := by decide +kernel
theorem dX11_strike_30 : decode cX11_strike 30 = .ok (.iload_n 1, 1) := by decide +kernel
theorem dX11_strike_31 : decode cX11_strike 31 = .ok (.iload_n 2, 1) := by decide +kernel
theorem dX11_strike_32 : decode cX11_strike 32 = .ok (.bastore, 1) := by decide +kernel
theorem dX11_strike_33 : decode cX11_strike 33 = .ok (.iload_n 3, 1) := by decide +kernel
theorem dX11_strike_34 : decode cX11_strike 34 = .ok (.ireturn, 1) := by decide +kernel
theorem dX11_halve_0 : decode cX11_halve 0 = .ok (.sipush 399, 3) := by decide +kernel
theorem dX11_halve_3 : decode cX11_halve 3 = .ok (.istore_n 2, 1) := by decide +kernel
theorem dX11_halve_4 : decode cX11_halve 4 = .ok (.iload_n 2, 1) := by decide +kernel
theorem dX11_halve_5 : decode cX11_halve 5 = .ok (.ifCond .le 35, 3) := by decide +kernel
theorem dX11_halve_8 : decode cX11_halve 8 = .ok (.aload_n 0, 1) := by decide +kernel
theorem dX11_halve_9 : decode cX11_halve 9 = .ok (.getfield 50, 3) := by decide +kernel
theorem dX11_halve_12 : decode cX11_halve 12 = .ok (.sipush 400, 3) := by decide +kernel
theorem dX11_halve_15 : decode cX11_halve 15 = .ok (.iload_n 1, 1) := by decide +kernel
theorem dX11_halve_16 : decode cX11_halve 16 = .ok (.imul, 1) := by decide +kernel
theorem dX11_halve_17 : decode cX11_halve 17 = .ok (.iload_n 2, 1) := by decide +kernel
theorem dX11_halve_18 : decode cX11_halve 18 = .ok (.iadd, 1) := by decide +kernel
theorem dX11_halve_19 : decode cX11_halve 19 = .ok (.aload_n 0, 1) := by decide +kernel
theorem dX11_halve_20 : decode cX11_halve 20 = .ok (.getfield 50, 3) := by decide +kernel
theorem dX11_halve_23 : decode cX11_halve 23 = .ok (.sipush 400, 3) := by decide +kernel
theorem dX11_halve_26 : decode cX11_halve 26 = .ok (.iload_n 1, 1) := by decide +kernel
theorem dX11_halve_27 : decode cX11_halve 27 = .ok (.imul, 1) := by decide +kernel
theorem dX11_halve_28 : decode cX11_halve 28 = .ok (.iload_n 2, 1) := by decide +kernel
theorem dX11_halve_29 : decode cX11_halve 29 = .ok (.iadd, 1) := by decide +kernel
theorem dX11_halve_30 : decode cX11_halve 30 = .ok (.iconst 1, 1) := by decide +kernel
theorem dX11_halve_31 : decode cX11_halve 31 = .ok (.isub, 1) := by decide +kernel
theorem dX11_halve_32 : decode cX11_halve 32 = .ok (.iaload, 1) := by decide +kernel
theorem dX11_halve_33 : decode cX11_halve 33 = .ok (.iastore, 1) := by decide +kernel
theorem dX11_halve_34 : decode cX11_halve 34 = .ok (.iinc 2 (-1), 3) := by decide +kernel
theorem dX11_halve_37 : decode cX11_halve 37 = .ok (.goto (-33), 3) := by decide +kernel
theorem dX11_halve_40 : decode cX11_halve 40 = .ok (.aload_n 0, 1) := by decide +kernel
theorem dX11_halve_41 : decode cX11_halve 41 = .ok (.getfield 50, 3) := by decide +kernel
theorem dX11_halve_44 : decode cX11_halve 44 = .ok (.sipush 400, 3) := by decide +kernel
theorem dX11_halve_47 : decode cX11_halve 47 = .ok (.iload_n 1, 1) := by decide +kernel
theorem dX11_halve_48 : decode cX11_halve 48 = .ok (.imul, 1) := by decide +kernel
theorem dX11_halve_49 : decode cX11_halve 49 = .ok (.aload_n 0, 1) := by decide +kernel
theorem dX11_halve_50 : decode cX11_halve 50 = .ok (.getfield 47, 3) := by decide +kernel
theorem dX11_halve_53 : decode cX11_halve 53 = .ok (.iload_n 1, 1) := by decide +kernel
theorem dX11_halve_54 : decode cX11_halve 54 = .ok (.iaload, 1) := by decide +kernel
theorem dX11_halve_55 : decode cX11_halve 55 = .ok (.iconst 2, 1) := by decide +kernel
theorem dX11_halve_56 : decode cX11_halve 56 = .ok (.irem, 1) := by decide +kernel
theorem dX11_halve_57 : decode cX11_halve 57 = .ok (.iastore, 1) := by decide +kernel
theorem dX11_halve_58 : decode cX11_halve 58 = .ok (.aload_n 0, 1) := by decide +kernel
theorem dX11_halve_59 : decode cX11_halve 59 = .ok (.getfield 47, 3) := by decide +kernel
theorem dX11_halve_62 : decode cX11_halve 62 = .ok (.iload_n 1, 1) := by decide +kernel
theorem dX11_halve_63 : decode cX11_halve 63 = .ok (.dup2, 1) := by decide +kernel
theorem dX11_halve_64 : decode cX11_halve 64 = .ok (.iaload, 1) := by decide +kernel
theorem dX11_halve_65 : decode cX11_halve 65 = .ok (.iconst 2, 1) := by decide +kernel
theorem dX11_halve_66 : decode cX11_halve 66 = .ok (.idiv, 1) := by decide +kernel
theorem dX11_halve_67 : decode cX11_halve 67 = .ok (.iastore, 1) := by decide +kernel
theorem dX11_halve_68 : decode cX11_halve 68 = .ok (.return_, 1) := by decide +kernel
theorem dX11_darken_0 : decode cX11_darken 0 = .ok (.iconst 0, 1) := by decide +kernel
theorem dX11_darken_1 : decode cX11_darken 1 = .ok (.istore_n 1, 1) := by decide +kernel
theorem dX11_darken_2 : decode cX11_darken 2 = .ok (.iload_n 1, 1) := by decide +kernel
theorem dX11_darken_3 : decode cX11_darken 3 = .ok (.aload_n 0, 1) := by decide +kernel
theorem dX11_darken_4 : decode cX11_darken 4 = .ok (.getfield 124, 3) := by decide +kernel
theorem dX11_darken_7 : decode cX11_darken 7 = .ok (.if_icmp .ge 74, 3) := by decide +kernel
theorem dX11_darken_10 : decode cX11_darken 10 = .ok (.aload_n 0, 1) := by decide +kernel
theorem dX11_darken_11 : decode cX11_darken 11 = .ok (.getfield 53, 3) := by decide +kernel
theorem dX11_darken_14 : decode cX11_darken 14 = .ok (.sipush 400, 3) := by decide +kernel
theorem dX11_darken_17 : decode cX11_darken 17 = .ok (.iload_n 1, 1) := by decide +kernel
theorem dX11_darken_18 : decode cX11_darken 18 = .ok (.imul, 1) := by decide +kernel
theorem dX11_darken_19 : decode cX11_darken 19 = .ok (.aload_n 0, 1) := by decide +kernel
theorem dX11_darken_20 : decode cX11_darken 20 = .ok (.getfield 223, 3) := by decide +kernel
theorem dX11_darken_23 : decode cX11_darken 23 = .ok (.iadd, 1) := by decide +kernel
theorem dX11_darken_24 : decode cX11_darken 24 = .ok (.aload_n 0, 1) := by decide +kernel
theorem dX11_darken_25 : decode cX11_darken 25 = .ok (.getfield 47, 3) := by decide +kernel
theorem dX11_darken_28 : decode cX11_darken 28 = .ok (.iload_n 1, 1) := by decide +kernel
theorem dX11_darken_29 : decode cX11_darken 29 = .ok (.iaload, 1) := by decide +kernel
theorem dX11_darken_30 : decode cX11_darken 30 = .ok (.iastore, 1) := by decide +kernel
theorem dX11_darken_31 : decode cX11_darken 31 = .ok (.aload_n 0, 1) := by decide +kernel
theorem dX11_darken_32 : decode cX11_darken 32 = .ok (.iload_n 1, 1) := by decide +kernel
theorem dX11_darken_33 : decode cX11_darken 33 = .ok (.invokevirtual 271, 3) := by decide +kernel
theorem dX11_darken_36 : decode cX11_darken 36 = .ok (.aload_n 0, 1) := by decide +kernel
theorem dX11_darken_37 : decode cX11_darken 37 = .ok (.getfield 41, 3) := by decide +kernel
theorem dX11_darken_40 : decode cX11_darken 40 = .ok (.iload_n 1, 1) := by decide +kernel
theorem dX11_darken_41 : decode cX11_darken 41 = .ok (.iaload, 1) := by decide +kernel
theorem dX11_darken_42 : decode cX11_darken 42 = .ok (.ifCond .ne 33, 3) := by decide +kernel
theorem dX11_darken_45 : decode cX11_darken 45 = .ok (.aload_n 0, 1) := by decide +kernel
theorem dX11_darken_46 : decode cX11_darken 46 = .ok (.getfield 223, 3) := by decide +kernel
theorem dX11_darken_49 : decode cX11_darken 49 = .ok (.aload_n 0, 1) := by decide +kernel
theorem dX11_darken_50 : decode cX11_darken 50 = .ok (.getfield 13, 3) := by decide +kernel
theorem dX11_darken_53 : decode cX11_darken 53 = .ok (.iload_n 1, 1) := by decide +kernel
theorem dX11_darken_54 : decode cX11_darken 54 = .ok (.iaload, 1) := by decide +kernel
theorem dX11_darken_55 : decode cX11_darken 55 = .ok (.if_icmp .ne 20, 3) := by decide +kernel
theorem dX11_darken_58 : decode cX11_darken 58 = .ok (.aload_n 0, 1) := by decide +kernel
theorem dX11_darken_59 : decode cX11_darken 59 = .ok (.getfield 41, 3) := by decide +kernel
theorem dX11_darken_62 : decode cX11_darken 62 = .ok (.iload_n 1, 1) := by decide +kernel
theorem dX11_darken_63 : decode cX11_darken 63 = .ok (.iconst 2, 1) := by decide +kernel
theorem dX11_darken_64 : decode cX11_darken 64 = .ok (.iastore, 1) := by decide +kernel
theorem dX11_darken_65 : decode cX11_darken 65 = .ok (.aload_n 0, 1) := by decide +kernel
theorem dX11_darken_66 : decode cX11_darken 66 = .ok (.getfield 44, 3) := by decide +kernel
theorem dX11_darken_69 : decode cX11_darken 69 = .ok (.iload_n 1, 1) := by decide +kernel
theorem dX11_darken_70 : decode cX11_darken 70 = .ok (.aload_n 0, 1) := by decide +kernel
theorem dX11_darken_71 : decode cX11_darken 71 = .ok (.getfield 223, 3) := by decide +kernel
theorem dX11_darken_74 : decode cX11_darken 74 = .ok (.iastore, 1) := by decide +kernel
theorem dX11_darken_75 : decode cX11_darken 75 = .ok (.iinc 1 1, 3) := by decide +kernel
theorem dX11_darken_78 : decode cX11_darken 78 = .ok (.goto (-76), 3) := by decide +kernel
theorem dX11_darken_81 : decode cX11_darken 81 = .ok (.iconst 0, 1) := by decide +kernel
theorem dX11_darken_82 : decode cX11_darken 82 = .ok (.istore_n 1, 1) := by decide +kernel
theorem dX11_darken_83 : decode cX11_darken 83 = .ok (.iload_n 1, 1) := by decide +kernel
theorem dX11_darken_84 : decode cX11_darken 84 = .ok (.aload_n 0, 1) := by decide +kernel
theorem dX11_darken_85 : decode cX11_darken 85 = .ok (.getfield 124, 3) := by decide +kernel
theorem dX11_darken_88 : decode cX11_darken 88 = .ok (.if_icmp .ge 14, 3) := by decide +kernel
theorem dX11_darken_91 : decode cX11_darken 91 = .ok (.aload_n 0, 1) := by decide +kernel
theorem dX11_darken_92 : decode cX11_darken 92 = .ok (.iload_n 1, 1) := by decide +kernel
theorem dX11_darken_93 : decode cX11_darken 93 = .ok (.invokevirtual 278, 3) := by decide +kernel
theorem dX11_darken_96 : decode cX11_darken 96 = .ok (.iinc 1 1, 3) := by decide +kernel
theorem dX11_darken_99 : decode cX11_darken 99 = .ok (.goto (-16), 3) := by decide +kernel
theorem dX11_darken_102 : decode cX11_darken 102 = .ok (.aload_n 0, 1) := by decide +kernel
theorem dX11_darken_103 : decode cX11_darken 103 = .ok (.dup, 1) := by decide +kernel
theorem dX11_darken_104 : decode cX11_darken 104 = .ok (.getfield 223, 3) := by decide +kernel
theorem dX11_darken_107 : decode cX11_darken 107 = .ok (.iconst 1, 1) := by decide +kernel
theorem dX11_darken_108 : decode cX11_darken 108 = .ok (.iadd, 1) := by decide +kernel
theorem dX11_darken_109 : decode cX11_darken 109 = .ok (.putfield 223, 3) := by decide +kernel
theorem dX11_darken_112 : decode cX11_darken 112 = .ok (.aload_n 0, 1) := by decide +kernel
theorem dX11_darken_113 : decode cX11_darken 113 = .ok (.iconst 0, 1) := by decide +kernel
theorem dX11_darken_114 : decode cX11_darken 114 = .ok (.putfield 226, 3) := by decide +kernel
theorem dX11_darken_117 : decode cX11_darken 117 = .ok (.return_, 1) := by decide +kernel
theorem dX11_dusk_0 : decode cX11_dusk 0 = .ok (.iload_n 1, 1) := by decide +kernel
theorem dX11_dusk_1 : decode cX11_dusk 1 = .ok (.i2l, 1) := by decide +kernel
theorem dX11_dusk_2 : decode cX11_dusk 2 = .ok (.lconst 1, 1) := by decide +kernel
theorem dX11_dusk_3 : decode cX11_dusk 3 = .ok (.ldc2_w 281, 3) := by decide +kernel
theorem dX11_dusk_6 : decode cX11_dusk 6 = .ok (.invokestatic 127, 3) := by decide +kernel
theorem dX11_dusk_9 : decode cX11_dusk 9 = .ok (.ifCond .ne 6, 3) := by decide +kernel
theorem dX11_dusk_12 : decode cX11_dusk 12 = .ok (.ldc 136, 2) := by decide +kernel
theorem dX11_dusk_14 : decode cX11_dusk 14 = .ok (.ireturn, 1) := by decide +kernel
theorem dX11_dusk_15 : decode cX11_dusk 15 = .ok (.iconst 0, 1) := by decide +kernel
theorem dX11_dusk_16 : decode cX11_dusk 16 = .ok (.istore_n 2, 1) := by decide +kernel
theorem dX11_dusk_17 : decode cX11_dusk 17 = .ok (.iload_n 2, 1) := by decide +kernel
theorem dX11_dusk_18 : decode cX11_dusk 18 = .ok (.iload_n 1, 1) := by decide +kernel
theorem dX11_dusk_19 : decode cX11_dusk 19 = .ok (.if_icmp .ge 23, 3) := by decide +kernel
theorem dX11_dusk_22 : decode cX11_dusk 22 = .ok (.aload_n 0, 1) := by decide +kernel
theorem dX11_dusk_23 : decode cX11_dusk 23 = .ok (.getfield 223, 3) := by decide +kernel
theorem dX11_dusk_26 : decode cX11_dusk 26 = .ok (.sipush 399, 3) := by decide +kernel
theorem dX11_dusk_29 : decode cX11_dusk 29 = .ok (.if_icmp .ge 13, 3) := by decide +kernel
theorem dX11_dusk_32 : decode cX11_dusk 32 = .ok (.aload_n 0, 1) := by decide +kernel
theorem dX11_dusk_33 : decode cX11_dusk 33 = .ok (.invokevirtual 283, 3) := by decide +kernel
theorem dX11_dusk_36 : decode cX11_dusk 36 = .ok (.iinc 2 1, 3) := by decide +kernel
theorem dX11_dusk_39 : decode cX11_dusk 39 = .ok (.goto (-22), 3) := by decide +kernel
theorem dX11_dusk_42 : decode cX11_dusk 42 = .ok (.aload_n 0, 1) := by decide +kernel
theorem dX11_dusk_43 : decode cX11_dusk 43 = .ok (.getfield 223, 3) := by decide +kernel
theorem dX11_dusk_46 : decode cX11_dusk 46 = .ok (.ireturn, 1) := by decide +kernel
theorem dX11_draw_0 : decode cX11_draw 0 = .ok (.aload_n 0, 1) := by decide +kernel
theorem dX11_draw_1 : decode cX11_draw 1 = .ok (.aload_n 0, 1) := by decide +kernel
theorem dX11_draw_2 : decode cX11_draw 2 = .ok (.getfield 286, 3) := by decide +kernel
theorem dX11_draw_5 : decode cX11_draw 5 = .ok (.i2l, 1) := by decide +kernel
theorem dX11_draw_6 : decode cX11_draw 6 = .ok (.ldc2_w 289, 3) := by decide +kernel
theorem dX11_draw_9 : decode cX11_draw 9 = .ok (.lmul, 1) := by decide +kernel
theorem dX11_draw_10 : decode cX11_draw 10 = .ok (.ldc2_w 291, 3) := by decide +kernel
theorem dX11_draw_13 : decode cX11_draw 13 = .ok (.ladd, 1) := by decide +kernel
theorem dX11_draw_14 : decode cX11_draw 14 = .ok (.ldc2_w 293, 3) := by decide +kernel
theorem dX11_draw_17 : decode cX11_draw 17 = .ok (.lrem, 1) := by decide +kernel
theorem dX11_draw_18 : decode cX11_draw 18 = .ok (.l2i, 1) := by decide +kernel
theorem dX11_draw_19 : decode cX11_draw 19 = .ok (.putfield 286, 3) := by decide +kernel
theorem dX11_draw_22 : decode cX11_draw 22 = .ok (.aload_n 0, 1) := by decide +kernel
theorem dX11_draw_23 : decode cX11_draw 23 = .ok (.getfield 286, 3) := by decide +kernel
theorem dX11_draw_26 : decode cX11_draw 26 = .ok (.ldc_w 295, 3) := by decide +kernel
theorem dX11_draw_29 : decode cX11_draw 29 = .ok (.idiv, 1) := by decide +kernel
theorem dX11_draw_30 : decode cX11_draw 30 = .ok (.iload_n 1, 1) := by decide +kernel
theorem dX11_draw_31 : decode cX11_draw 31 = .ok (.irem, 1) := by decide +kernel
theorem dX11_draw_32 : decode cX11_draw 32 = .ok (.ireturn, 1) := by decide +kernel
theorem dX11_drift_0 : decode cX11_drift 0 = .ok (.iload_n 1, 1) := by decide +kernel
theorem dX11_drift_1 : decode cX11_drift 1 = .ok (.i2l, 1) := by decide +kernel
theorem dX11_drift_2 : decode cX11_drift 2 = .ok (.lconst 1, 1) := by decide +kernel
theorem dX11_drift_3 : decode cX11_drift 3 = .ok (.ldc2_w 296, 3) := by decide +kernel
theorem dX11_drift_6 : decode cX11_drift 6 = .ok (.invokestatic 127, 3) := by decide +kernel
theorem dX11_drift_9 : decode cX11_drift 9 = .ok (.ifCond .eq 15, 3) := by decide +kernel
theorem dX11_drift_12 : decode cX11_drift 12 = .ok (.iload_n 2, 1) := by decide +kernel
theorem dX11_drift_13 : decode cX11_drift 13 = .ok (.i2l, 1) := by decide +kernel
theorem dX11_drift_14 : decode cX11_drift 14 = .ok (.lconst 0, 1) := by decide +kernel
theorem dX11_drift_15 : decode cX11_drift 15 = .ok (.ldc2_w 298, 3) := by decide +kernel
theorem dX11_drift_18 : decode cX11_drift 18 = .ok (.invokestatic 127, 3) := by decide +kernel
theorem dX11_drift_21 : decode cX11_drift 21 = .ok (.ifCond .ne 6, 3) := by decide +kernel
theorem dX11_drift_24 : decode cX11_drift 24 = .ok (.ldc 136, 2) := by decide +kernel
theorem dX11_drift_26 : decode cX11_drift 26 = .ok (.ireturn, 1) := by decide +kernel
theorem dX11_drift_27 : decode cX11_drift 27 = .ok (.iconst 0, 1) := by decide +kernel
theorem dX11_drift_28 : decode cX11_drift 28 = .ok (.istore_n 3, 1) := by decide +kernel
theorem dX11_drift_29 : decode cX11_drift 29 = .ok (.iconst 0, 1) := by decide +kernel
theorem dX11_drift_30 : decode cX11_drift 30 = .ok (.istore 4, 2) := by decide +kernel
theorem dX11_drift_32 : decode cX11_drift 32 = .ok (.iload 4, 2) := by decide +kernel
theorem dX11_drift_34 : decode cX11_drift 34 = .ok (.iload_n 1, 1) := by decide +kernel
theorem dX11_drift_35 : decode cX11_drift 35 = .ok (.if_icmp .ge 69, 3) := by decide +kernel
theorem dX11_drift_38 : decode cX11_drift 38 = .ok (.aload_n 0, 1) := by decide +kernel
theorem dX11_drift_39 : decode cX11_drift 39 = .ok (.getfield 223, 3) := by decide +kernel
theorem dX11_drift_42 : decode cX11_drift 42 = .ok (.sipush 399, 3) := by decide +kernel
theorem dX11_drift_45 : decode cX11_drift 45 = .ok (.if_icmp .ge 59, 3) := by decide +kernel
theorem dX11_drift_48 : decode cX11_drift 48 = .ok (.iconst 0, 1) := by decide +kernel
theorem dX11_drift_49 : decode cX11_drift 49 = .ok (.istore 5, 2) := by decide +kernel
theorem dX11_drift_51 : decode cX11_drift 51 = .ok (.iload 5, 2) := by decide +kernel
theorem dX11_drift_53 : decode cX11_drift 53 = .ok (.aload_n 0, 1) := by decide +kernel
theorem dX11_drift_54 : decode cX11_drift 54 = .ok (.getfield 131, 3) := by decide +kernel
theorem dX11_drift_57 : decode cX11_drift 57 = .ok (.if_icmp .ge 37, 3) := by decide +kernel
theorem dX11_drift_60 : decode cX11_drift 60 = .ok (.aload_n 0, 1) := by decide +kernel
theorem dX11_drift_61 : decode cX11_drift 61 = .ok (.bipush 100, 2) := by decide +kernel
theorem dX11_drift_63 : decode cX11_drift 63 = .ok (.invokevirtual 300, 3) := by decide +kernel
theorem dX11_drift_66 : decode cX11_drift 66 = .ok (.iload_n 2, 1) := by decide +kernel
theorem dX11_drift_67 : decode cX11_drift 67 = .ok (.if_icmp .ge 21, 3) := by decide +kernel
theorem dX11_drift_70 : decode cX11_drift 70 = .ok (.aload_n 0, 1) := by decide +kernel
theorem dX11_drift_71 : decode cX11_drift 71 = .ok (.iload 5, 2) := by decide +kernel
theorem dX11_drift_73 : decode cX11_drift 73 = .ok (.invokevirtual 263, 3) := by decide +kernel
theorem dX11_drift_76 : decode cX11_drift 76 = .ok (.ifCond .eq 12, 3) := by decide +kernel
theorem dX11_drift_79 : decode cX11_drift 79 = .ok (.aload_n 0, 1) := by decide +kernel
theorem dX11_drift_80 : decode cX11_drift 80 = .ok (.iload 5, 2) := by decide +kernel
theorem dX11_drift_82 : decode cX11_drift 82 = .ok (.invokevirtual 275, 3) := by decide +kernel
theorem dX11_drift_85 : decode cX11_drift 85 = .ok (.iinc 3 1, 3) := by decide +kernel
theorem dX11_drift_88 : decode cX11_drift 88 = .ok (.iinc 5 1, 3) := by decide +kernel
theorem dX11_drift_91 : decode cX11_drift 91 = .ok (.goto (-40), 3) := by decide +kernel
theorem dX11_drift_94 : decode cX11_drift 94 = .ok (.aload_n 0, 1) := by decide +kernel
theorem dX11_drift_95 : decode cX11_drift 95 = .ok (.invokevirtual 283, 3) := by decide +kernel
theorem dX11_drift_98 : decode cX11_drift 98 = .ok (.iinc 4 1, 3) := by decide +kernel
theorem dX11_drift_101 : decode cX11_drift 101 = .ok (.goto (-69), 3) := by decide +kernel
theorem dX11_drift_104 : decode cX11_drift 104 = .ok (.iload_n 3, 1) := by decide +kernel
theorem dX11_drift_105 : decode cX11_drift 105 = .ok (.ireturn, 1) := by decide +kernel
theorem dX11_begin_0 : decode cX11_begin 0 = .ok (.aload_n 0, 1) := by decide +kernel
theorem dX11_begin_1 : decode cX11_begin 1 = .ok (.getfield 223, 3) := by decide +kernel
theorem dX11_begin_4 : decode cX11_begin 4 = .ok (.istore_n 1, 1) := by decide +kernel
theorem dX11_begin_5 : decode cX11_begin 5 = .ok (.aload_n 0, 1) := by decide +kernel
theorem dX11_begin_6 : decode cX11_begin 6 = .ok (.invokevirtual 220, 3) := by decide +kernel
theorem dX11_begin_9 : decode cX11_begin 9 = .ok (.iload_n 1, 1) := by decide +kernel
theorem dX11_begin_10 : decode cX11_begin 10 = .ok (.ireturn, 1) := by decide +kernel
theorem dX11_listOwn_0 : decode cX11_listOwn 0 = .ok (.aload_n 0, 1) := by decide +kernel
theorem dX11_listOwn_1 : decode cX11_listOwn 1 = .ok (.iconst 0, 1) := by decide +kernel
theorem dX11_listOwn_2 : decode cX11_listOwn 2 = .ok (.putfield 303, 3) := by decide +kernel
theorem dX11_listOwn_5 : decode cX11_listOwn 5 = .ok (.iconst 0, 1) := by decide +kernel
theorem dX11_listOwn_6 : decode cX11_listOwn 6 = .ok (.istore_n 2, 1) := by decide +kernel
theorem dX11_listOwn_7 : decode cX11_listOwn 7 = .ok (.iload_n 2, 1) := by decide +kernel
theorem dX11_listOwn_8 : decode cX11_listOwn 8 = .ok (.aload_n 0, 1) := by decide +kernel
theorem dX11_listOwn_9 : decode cX11_listOwn 9 = .ok (.getfield 131, 3) := by decide +kernel
theorem dX11_listOwn_12 : decode cX11_listOwn 12 = .ok (.if_icmp .ge 39, 3) := by decide +kernel
theorem dX11_listOwn_15 : decode cX11_listOwn 15 = .ok (.aload_n 0, 1) := by decide +kernel
theorem dX11_listOwn_16 : decode cX11_listOwn 16 = .ok (.getfield 19, 3) := by decide +kernel
theorem dX11_listOwn_19 : decode cX11_listOwn 19 = .ok (.iload_n 2, 1) := by decide +kernel
theorem dX11_listOwn_20 : decode cX11_listOwn 20 = .ok (.iaload, 1) := by decide +kernel
theorem dX11_listOwn_21 : decode cX11_listOwn 21 = .ok (.iload_n 1, 1) := by decide +kernel
theorem dX11_listOwn_22 : decode cX11_listOwn 22 = .ok (.if_icmp .ne 23, 3) := by decide +kernel
theorem dX11_listOwn_25 : decode cX11_listOwn 25 = .ok (.aload_n 0, 1) := by decide +kernel
theorem dX11_listOwn_26 : decode cX11_listOwn 26 = .ok (.getfield 84, 3) := by decide +kernel
theorem dX11_listOwn_29 : decode cX11_listOwn 29 = .ok (.aload_n 0, 1) := by decide +kernel
theorem dX11_listOwn_30 : decode cX11_listOwn 30 = .ok (.getfield 303, 3) := by decide +kernel
theorem dX11_listOwn_33 : decode cX11_listOwn 33 = .ok (.iload_n 2, 1) := by decide +kernel
theorem dX11_listOwn_34 : decode cX11_listOwn 34 = .ok (.iastore, 1) := by decide +kernel
theorem dX11_listOwn_35 : decode cX11_listOwn 35 = .ok (.aload_n 0, 1) := by decide +kernel
theorem dX11_listOwn_36 : decode cX11_listOwn 36 = .ok (.dup, 1) := by decide +kernel
theorem dX11_listOwn_37 : decode cX11_listOwn 37 = .ok (.getfield 303, 3) := by decide +kernel
theorem dX11_listOwn_40 : decode cX11_listOwn 40 = .ok (.iconst 1, 1) := by decide +kernel
theorem dX11_listOwn_41 : decode cX11_listOwn 41 = .ok (.iadd, 1) := by decide +kernel
theorem dX11_listOwn_42 : decode cX11_listOwn 42 = .ok (.putfield 303, 3) := by decide +kernel
theorem dX11_listOwn_45 : decode cX11_listOwn 45 = .ok (.iinc 2 1, 3) := by decide +kernel
theorem dX11_listOwn_48 : decode cX11_listOwn 48 = .ok (.goto (-41), 3) := by decide +kernel
theorem dX11_listOwn_51 : decode cX11_listOwn 51 = .ok (.return_, 1) := by decide +kernel
theorem dX11_mayCall_0 : decode cX11_mayCall 0 = .ok (.aload_n 0, 1) := by decide +kernel
theorem dX11_mayCall_1 : decode cX11_mayCall 1 = .ok (.aload_n 0, 1) := by decide +kernel
theorem dX11_mayCall_2 : decode cX11_mayCall 2 = .ok (.getfield 84, 3) := by decide +kernel
theorem dX11_mayCall_5 : decode cX11_mayCall 5 = .ok (.iload_n 1, 1) := by decide +kernel
theorem dX11_mayCall_6 : decode cX11_mayCall 6 = .ok (.iaload, 1) := by decide +kernel
theorem dX11_mayCall_7 : decode cX11_mayCall 7 = .ok (.aload_n 0, 1) := by decide +kernel
theorem dX11_mayCall_8 : decode cX11_mayCall 8 = .ok (.getfield 223, 3) := by decide +kernel
theorem dX11_mayCall_11 : decode cX11_mayCall 11 = .ok (.iload_n 2, 1) := by decide +kernel
theorem dX11_mayCall_12 : decode cX11_mayCall 12 = .ok (.iadd, 1) := by decide +kernel
theorem dX11_mayCall_13 : decode cX11_mayCall 13 = .ok (.invokevirtual 253, 3) := by decide +kernel
theorem dX11_mayCall_16 : decode cX11_mayCall 16 = .ok (.ifCond .eq 26, 3) := by decide +kernel
theorem dX11_mayCall_19 : decode cX11_mayCall 19 = .ok (.aload_n 0, 1) := by decide +kernel
theorem dX11_mayCall_20 : decode cX11_mayCall 20 = .ok (.getfield 87, 3) := by decide +kernel
theorem dX11_mayCall_23 : decode cX11_mayCall 23 = .ok (.iload_n 1, 1) := by decide +kernel
theorem dX11_mayCall_24 : decode cX11_mayCall 24 = .ok (.iaload, 1) := by decide +kernel
theorem dX11_mayCall_25 : decode cX11_mayCall 25 = .ok (.ifCond .lt 13, 3) := by decide +kernel
theorem dX11_mayCall_28 : decode cX11_mayCall 28 = .ok (.aload_n 0, 1) := by decide +kernel
theorem dX11_mayCall_29 : decode cX11_mayCall 29 = .ok (.getfield 87, 3) := by decide +kernel
theorem dX11_mayCall_32 : decode cX11_mayCall 32 = .ok (.iload_n 1, 1) := by decide +kernel
theorem dX11_mayCall_33 : decode cX11_mayCall 33 = .ok (.iaload, 1) := by decide +kernel
theorem dX11_mayCall_34 : decode cX11_mayCall 34 = .ok (.iload_n 2, 1) := by decide +kernel
theorem dX11_mayCall_35 : decode cX11_mayCall 35 = .ok (.if_icmp .ne 7, 3) := by decide +kernel
theorem dX11_mayCall_38 : decode cX11_mayCall 38 = .ok (.iconst 1, 1) := by decide +kernel
theorem dX11_mayCall_39 : decode cX11_mayCall 39 = .ok (.goto 4, 3) := by decide +kernel
theorem dX11_mayCall_42 : decode cX11_mayCall 42 = .ok (.iconst 0, 1) := by decide +kernel
theorem dX11_mayCall_43 : decode cX11_mayCall 43 = .ok (.ireturn, 1) := by decide +kernel
theorem dX11_room_0 : decode cX11_room 0 = .ok (.aload_n 0, 1) := by decide +kernel
theorem dX11_room_1 : decode cX11_room 1 = .ok (.aload_n 0, 1) := by decide +kernel
theorem dX11_room_2 : decode cX11_room 2 = .ok (.getfield 223, 3) := by decide +kernel
theorem dX11_room_5 : decode cX11_room 5 = .ok (.iload_n 1, 1) := by decide +kernel
theorem dX11_room_6 : decode cX11_room 6 = .ok (.iadd, 1) := by decide +kernel
theorem dX11_room_7 : decode cX11_room 7 = .ok (.iconst 3, 1) := by decide +kernel
theorem dX11_room_8 : decode cX11_room 8 = .ok (.invokevirtual 241, 3) := by decide +kernel
theorem dX11_room_11 : decode cX11_room 11 = .ok (.iload_n 1, 1) := by decide +kernel
theorem dX11_room_12 : decode cX11_room 12 = .ok (.ifCond .ne 10, 3) := by decide +kernel
theorem dX11_room_15 : decode cX11_room 15 = .ok (.aload_n 0, 1) := by decide +kernel
theorem dX11_room_16 : decode cX11_room 16 = .ok (.getfield 226, 3) := by decide +kernel
theorem dX11_room_19 : decode cX11_room 19 = .ok (.goto 4, 3) := by decide +kernel
theorem dX11_room_22 : decode cX11_room 22 = .ok (.iconst 0, 1) := by decide +kernel
theorem dX11_room_23 : decode cX11_room 23 = .ok (.isub, 1) := by decide +kernel
theorem dX11_room_24 : decode cX11_room 24 = .ok (.istore_n 2, 1) := by decide +kernel
theorem dX11_room_25 : decode cX11_room 25 = .ok (.iload_n 2, 1) := by decide +kernel
theorem dX11_room_26 : decode cX11_room 26 = .ok (.ifCond .ge 7, 3) := by decide +kernel
theorem dX11_room_29 : decode cX11_room 29 = .ok (.iconst 0, 1) := by decide +kernel
theorem dX11_room_30 : decode cX11_room 30 = .ok (.goto 4, 3) := by decide +kernel
theorem dX11_room_33 : decode cX11_room 33 = .ok (.iload_n 2, 1) := by decide +kernel
theorem dX11_room_34 : decode cX11_room 34 = .ok (.ireturn, 1) := by decide +kernel
theorem dX11_callOn_0 : decode cX11_callOn 0 = .ok (.iconst 0, 1) := by decide +kernel
theorem dX11_callOn_1 : decode cX11_callOn 1 = .ok (.istore_n 2, 1) := by decide +kernel
theorem dX11_callOn_2 : decode cX11_callOn 2 = .ok (.iload_n 2, 1) := by decide +kernel
theorem dX11_callOn_3 : decode cX11_callOn 3 = .ok (.bipush 64, 2) := by decide +kernel
theorem dX11_callOn_5 : decode cX11_callOn 5 = .ok (.if_icmp .ge 72, 3) := by decide +kernel
theorem dX11_callOn_8 : decode cX11_callOn 8 = .ok (.aload_n 0, 1) := by decide +kernel
theorem dX11_callOn_9 : decode cX11_callOn 9 = .ok (.getfield 90, 3) := by decide +kernel
theorem dX11_callOn_12 : decode cX11_callOn 12 = .ok (.iload_n 2, 1) := by decide +kernel
theorem dX11_callOn_13 : decode cX11_callOn 13 = .ok (.iload_n 1, 1) := by decide +kernel
theorem dX11_callOn_14 : decode cX11_callOn 14 = .ok (.ifCond .ne 17, 3) := by decide +kernel
theorem dX11_callOn_17 : decode cX11_callOn 17 = .ok (.iload_n 2, 1) := by decide +kernel
theorem dX11_callOn_18 : decode cX11_callOn 18 = .ok (.ifCond .ne 7, 3) := by decide +kernel
theorem dX11_callOn_21 : decode cX11_callOn 21 = .ok (.lconst 0, 1) := by decide +kernel
theorem dX11_callOn_22 : decode cX11_callOn 22 = .ok (.goto 36, 3) := by decide +kernel
theorem dX11_callOn_25 : decode cX11_callOn 25 = .ok (.ldc2_w 306, 3) := by decide +kernel
theorem dX11_callOn_28 : decode cX11_callOn 28 = .ok (.goto 30, 3) := by decide +kernel
theorem dX11_callOn_31 : decode cX11_callOn 31 = .ok (.aload_n 0, 1) := by decide +kernel
theorem dX11_callOn_32 : decode cX11_callOn 32 = .ok (.getfield 90, 3) := by decide +kernel
theorem dX11_callOn_35 : decode cX11_callOn 35 = .ok (.iload_n 2, 1) := by decide +kernel
theorem dX11_callOn_36 : decode cX11_callOn 36 = .ok (.laload, 1) := by decide +kernel
theorem dX11_callOn_37 : decode cX11_callOn 37 = .ok (.lconst 0, 1) := by decide +kernel
theorem dX11_callOn_38 : decode cX11_callOn 38 = .ok (.lcmp, 1) := by decide +kernel
theorem dX11_callOn_39 : decode cX11_callOn 39 = .ok (.ifCond .ge 9, 3) := by decide +kernel
theorem dX11_callOn_42 : decode cX11_callOn 42 = .ok (.ldc2_w 306, 3) := by decide +kernel
theorem dX11_callOn_45 : decode cX11_callOn 45 = .ok (.goto 13, 3) := by decide +kernel
theorem dX11_callOn_48 : decode cX11_callOn 48 = .ok (.aload_n 0, 1) := by decide +kernel
theorem dX11_callOn_49 : decode cX11_callOn 49 = .ok (.getfield 90, 3) := by decide +kernel
theorem dX11_callOn_52 : decode cX11_callOn 52 = .ok (.iload_n 2, 1) := by decide +kernel
theorem dX11_callOn_53 : decode cX11_callOn 53 = .ok (.laload, 1) := by decide +kernel
theorem dX11_callOn_54 : decode cX11_callOn 54 = .ok (.ldc2_w 308, 3) := by decide +kernel
theorem dX11_callOn_57 : decode cX11_callOn 57 = .ok (.ldiv, 1) := by decide +kernel
theorem dX11_callOn_58 : decode cX11_callOn 58 = .ok (.lastore, 1) := by decide +kernel
theorem dX11_callOn_59 : decode cX11_callOn 59 = .ok (.aload_n 0, 1) := by decide +kernel
theorem dX11_callOn_60 : decode cX11_callOn 60 = .ok (.getfield 94, 3) := by decide +kernel
theorem dX11_callOn_63 : decode cX11_callOn 63 = .ok (.iload_n 2, 1) := by decide +kernel
theorem dX11_callOn_64 : decode cX11_callOn 64 = .ok (.aload_n 0, 1) := by decide +kernel
theorem dX11_callOn_65 : decode cX11_callOn 65 = .ok (.getfield 90, 3) := by decide +kernel
theorem dX11_callOn_68 : decode cX11_callOn 68 = .ok (.iload_n 2, 1) := by decide +kernel
theorem dX11_callOn_69 : decode cX11_callOn 69 = .ok (.laload, 1) := by decide +kernel
theorem dX11_callOn_70 : decode cX11_callOn 70 = .ok (.lastore, 1) := by decide +kernel
theorem dX11_callOn_71 : decode cX11_callOn 71 = .ok (.iinc 2 1, 3) := by decide +kernel
theorem dX11_callOn_74 : decode cX11_callOn 74 = .ok (.goto (-72), 3) := by decide +kernel
theorem dX11_callOn_77 : decode cX11_callOn 77 = .ok (.aload_n 0, 1) := by decide +kernel
theorem dX11_callOn_78 : decode cX11_callOn 78 = .ok (.iload_n 1, 1) := by decide +kernel
theorem dX11_callOn_79 : decode cX11_callOn 79 = .ok (.invokevirtual 310, 3) := by decide +kernel
theorem dX11_callOn_82 : decode cX11_callOn 82 = .ok (.istore_n 2, 1) := by decide +kernel
theorem dX11_callOn_83 : decode cX11_callOn 83 = .ok (.iconst 1, 1) := by decide +kernel
theorem dX11_callOn_84 : decode cX11_callOn 84 = .ok (.istore_n 3, 1) := by decide +kernel
theorem dX11_callOn_85 : decode cX11_callOn 85 = .ok (.iload_n 3, 1) := by decide +kernel
theorem dX11_callOn_86 : decode cX11_callOn 86 = .ok (.iconst 1, 1) := by decide +kernel
theorem dX11_callOn_87 : decode cX11_callOn 87 = .ok (.aload_n 0, 1) := by decide +kernel
theorem dX11_callOn_88 : decode cX11_callOn 88 = .ok (.getfield 303, 3) := by decide +kernel
theorem dX11_callOn_91 : decode cX11_callOn 91 = .ok (.ishl, 1) := by decide +kernel
theorem dX11_callOn_92 : decode cX11_callOn 92 = .ok (.if_icmp .ge 139, 3) := by decide +kernel
theorem dX11_callOn_95 : decode cX11_callOn 95 = .ok (.iload_n 3, 1) := by decide +kernel
theorem dX11_callOn_96 : decode cX11_callOn 96 = .ok (.invokestatic 313, 3) := by decide +kernel
theorem dX11_callOn_99 : decode cX11_callOn 99 = .ok (.iload_n 2, 1) := by decide +kernel
theorem dX11_callOn_100 : decode cX11_callOn 100 = .ok (.if_icmp .gt 125, 3) := by decide +kernel
theorem dX11_callOn_103 : decode cX11_callOn 103 = .ok (.aload_n 0, 1) := by decide +kernel
theorem dX11_callOn_104 : decode cX11_callOn 104 = .ok (.iload_n 3, 1) := by decide +kernel
theorem dX11_callOn_105 : decode cX11_callOn 105 = .ok (.iload_n 1, 1) := by decide +kernel
theorem dX11_callOn_106 : decode cX11_callOn 106 = .ok (.invokevirtual 316, 3) := by decide +kernel
theorem dX11_callOn_109 : decode cX11_callOn 109 = .ok (.ifCond .eq 116, 3) := by decide +kernel
theorem dX11_callOn_112 : decode cX11_callOn 112 = .ok (.aload_n 0, 1) := by decide +kernel
theorem dX11_callOn_113 : decode cX11_callOn 113 = .ok (.iload_n 3, 1) := by decide +kernel
theorem dX11_callOn_114 : decode cX11_callOn 114 = .ok (.iload_n 1, 1) := by decide +kernel
theorem dX11_callOn_115 : decode cX11_callOn 115 = .ok (.invokevirtual 319, 3) := by decide +kernel
theorem dX11_callOn_118 : decode cX11_callOn 118 = .ok (.lstore 4, 2) := by decide +kernel
theorem dX11_callOn_120 : decode cX11_callOn 120 = .ok (.iconst 0, 1) := by decide +kernel
theorem dX11_callOn_121 : decode cX11_callOn 121 = .ok (.istore 6, 2) := by decide +kernel
theorem dX11_callOn_123 : decode cX11_callOn 123 = .ok (.iload 6, 2) := by decide +kernel
theorem dX11_callOn_125 : decode cX11_callOn 125 = .ok (.iconst 1, 1) := by decide +kernel
theorem dX11_callOn_126 : decode cX11_callOn 126 = .ok (.aload_n 0, 1) := by decide +kernel
theorem dX11_callOn_127 : decode cX11_callOn 127 = .ok (.getfield 303, 3) := by decide +kernel
theorem dX11_callOn_130 : decode cX11_callOn 130 = .ok (.ishl, 1) := by decide +kernel
theorem dX11_callOn_131 : decode cX11_callOn 131 = .ok (.if_icmp .ge 94, 3) := by decide +kernel
theorem dX11_callOn_134 : decode cX11_callOn 134 = .ok (.aload_n 0, 1) := by decide +kernel
theorem dX11_callOn_135 : decode cX11_callOn 135 = .ok (.getfield 90, 3) := by decide +kernel
theorem dX11_callOn_138 : decode cX11_callOn 138 = .ok (.iload 6, 2) := by decide +kernel
theorem dX11_callOn_140 : decode cX11_callOn 140 = .ok (.laload, 1) := by decide +kernel
theorem dX11_callOn_141 : decode cX11_callOn 141 = .ok (.lconst 0, 1) := by decide +kernel
theorem dX11_callOn_142 : decode cX11_callOn 142 = .ok (.lcmp, 1) := by decide +kernel
theorem dX11_callOn_143 : decode cX11_callOn 143 = .ok (.ifCond .lt 14, 3) := by decide +kernel
theorem dX11_callOn_146 : decode cX11_callOn 146 = .ok (.iload_n 3, 1) := by decide +kernel
theorem dX11_callOn_147 : decode cX11_callOn 147 = .ok (.iload 6, 2) := by decide +kernel
theorem dX11_callOn_149 : decode cX11_callOn 149 = .ok (.iand, 1) := by decide +kernel
theorem dX11_callOn_150 : decode cX11_callOn 150 = .ok (.ifCond .ne 7, 3) := by decide +kernel
theorem dX11_callOn_153 : decode cX11_callOn 153 = .ok (.iconst 1, 1) := by decide +kernel
theorem dX11_callOn_154 : decode cX11_callOn 154 = .ok (.goto 4, 3) := by decide +kernel
theorem dX11_callOn_157 : decode cX11_callOn 157 = .ok (.iconst 0, 1) := by decide +kernel
theorem dX11_callOn_158 : decode cX11_callOn 158 = .ok (.istore 7, 2) := by decide +kernel
theorem dX11_callOn_160 : decode cX11_callOn 160 = .ok (.aload_n 0, 1) := by decide +kernel
theorem dX11_callOn_161 : decode cX11_callOn 161 = .ok (.getfield 94, 3) := by decide +kernel
theorem dX11_callOn_164 : decode cX11_callOn 164 = .ok (.iload 6, 2) := by decide +kernel
theorem dX11_callOn_166 : decode cX11_callOn 166 = .ok (.iload_n 3, 1) := by decide +kernel
theorem dX11_callOn_167 : decode cX11_callOn 167 = .ok (.ior, 1) := by decide +kernel
theorem dX11_callOn_168 : decode cX11_callOn 168 = .ok (.iload 7, 2) := by decide +kernel
theorem dX11_callOn_170 : decode cX11_callOn 170 = .ok (.ifCond .eq 39, 3) := by decide +kernel
theorem dX11_callOn_173 : decode cX11_callOn 173 = .ok (.aload_n 0, 1) := by decide +kernel
theorem dX11_callOn_174 : decode cX11_callOn 174 = .ok (.getfield 90, 3) := by decide +kernel
theorem dX11_callOn_177 : decode cX11_callOn 177 = .ok (.iload 6, 2) := by decide +kernel
theorem dX11_callOn_179 : decode cX11_callOn 179 = .ok (.laload, 1) := by decide +kernel
theorem dX11_callOn_180 : decode cX11_callOn 180 = .ok (.lload 4, 2) := by decide +kernel
theorem dX11_callOn_182 : decode cX11_callOn 182 = .ok (.ladd, 1) := by decide +kernel
theorem dX11_callOn_183 : decode cX11_callOn 183 = .ok (.aload_n 0, 1) := by decide +kernel
theorem dX11_callOn_184 : decode cX11_callOn 184 = .ok (.getfield 94, 3) := by decide +kernel
theorem dX11_callOn_187 : decode cX11_callOn 187 = .ok (.iload 6, 2) := by decide +kernel
theorem dX11_callOn_189 : decode cX11_callOn 189 = .ok (.iload_n 3, 1) := by decide +kernel
theorem dX11_callOn_190 : decode cX11_callOn 190 = .ok (.ior, 1) := by decide +kernel
theorem dX11_callOn_191 : decode cX11_callOn 191 = .ok (.laload, 1) := by decide +kernel
theorem dX11_callOn_192 : decode cX11_callOn 192 = .ok (.lcmp, 1) := by decide +kernel
theorem dX11_callOn_193 : decode cX11_callOn 193 = .ok (.ifCond .le 16, 3) := by decide +kernel
theorem dX11_callOn_196 : decode cX11_callOn 196 = .ok (.aload_n 0, 1) := by decide +kernel
theorem dX11_callOn_197 : decode cX11_callOn 197 = .ok (.getfield 90, 3) := by decide +kernel
theorem dX11_callOn_200 : decode cX11_callOn 200 = .ok (.iload 6, 2) := by decide +kernel
theorem dX11_callOn_202 : decode cX11_callOn 202 = .ok (.laload, 1) := by decide +kernel
theorem dX11_callOn_203 : decode cX11_callOn 203 = .ok (.lload 4, 2) := by decide +kernel
theorem dX11_callOn_205 : decode cX11_callOn 205 = .ok (.ladd, 1) := by decide +kernel
theorem dX11_callOn_206 : decode cX11_callOn 206 = .ok (.goto 12, 3) := by decide +kernel
theorem dX11_callOn_209 : decode cX11_callOn 209 = .ok (.aload_n 0, 1) := by decide +kernel
theorem dX11_callOn_210 : decode cX11_callOn 210 = .ok (.getfield 94, 3) := by decide +kernel
theorem dX11_callOn_213 : decode cX11_callOn 213 = .ok (.iload 6, 2) := by decide +kernel
theorem dX11_callOn_215 : decode cX11_callOn 215 = .ok (.iload_n 3, 1) := by decide +kernel
theorem dX11_callOn_216 : decode cX11_callOn 216 = .ok (.ior, 1) := by decide +kernel
theorem dX11_callOn_217 : decode cX11_callOn 217 = .ok (.laload, 1) := by decide +kernel
theorem dX11_callOn_218 : decode cX11_callOn 218 = .ok (.lastore, 1) := by decide +kernel
theorem dX11_callOn_219 : decode cX11_callOn 219 = .ok (.iinc 6 1, 3) := by decide +kernel
theorem dX11_callOn_222 : decode cX11_callOn 222 = .ok (.goto (-99), 3) := by decide +kernel
theorem dX11_callOn_225 : decode cX11_callOn 225 = .ok (.iinc 3 1, 3) := by decide +kernel
theorem dX11_callOn_228 : decode cX11_callOn 228 = .ok (.goto (-143), 3) := by decide +kernel
theorem dX11_callOn_231 : decode cX11_callOn 231 = .ok (.iconst 0, 1) := by decide +kernel
theorem dX11_callOn_232 : decode cX11_callOn 232 = .ok (.istore_n 3, 1) := by decide +kernel
theorem dX11_callOn_233 : decode cX11_callOn 233 = .ok (.iload_n 3, 1) := by decide +kernel
theorem dX11_callOn_234 : decode cX11_callOn 234 = .ok (.bipush 64, 2) := by decide +kernel
theorem dX11_callOn_236 : decode cX11_callOn 236 = .ok (.if_icmp .ge 21, 3) := by decide +kernel
theorem dX11_callOn_239 : decode cX11_callOn 239 = .ok (.aload_n 0, 1) := by decide +kernel
theorem dX11_callOn_240 : decode cX11_callOn 240 = .ok (.getfield 90, 3) := by decide +kernel
theorem dX11_callOn_243 : decode cX11_callOn 243 = .ok (.iload_n 3, 1) := by decide +kernel
theorem dX11_callOn_244 : decode cX11_callOn 244 = .ok (.aload_n 0, 1) := by decide +kernel
theorem dX11_callOn_245 : decode cX11_callOn 245 = .ok (.getfield 94, 3) := by decide +kernel
theorem dX11_callOn_248 : decode cX11_callOn 248 = .ok (.iload_n 3, 1) := by decide +kernel
theorem dX11_callOn_249 : decode cX11_callOn 249 = .ok (.laload, 1) := by decide +kernel
theorem dX11_callOn_250 : decode cX11_callOn 250 = .ok (.lastore, 1) := by decide +kernel
theorem dX11_callOn_251 : decode cX11_callOn 251 = .ok (.iinc 3 1, 3) := by decide +kernel
theorem dX11_callOn_254 : decode cX11_callOn 254 = .ok (.goto (-21), 3) := by decide +kernel
theorem dX11_callOn_257 : decode cX11_callOn 257 = .ok (.return_, 1) := by decide +kernel
theorem dX11_findMosts_0 : decode cX11_findMosts 0 = .ok (.iconst 0, 1) := by decide +kernel
theorem dX11_findMosts_1 : decode cX11_findMosts 1 = .ok (.istore_n 2, 1) := by decide +kernel
theorem dX11_findMosts_2 : decode cX11_findMosts 2 = .ok (.iload_n 2, 1) := by decide +kernel
theorem dX11_findMosts_3 : decode cX11_findMosts 3 = .ok (.iload_n 1, 1) := by decide +kernel
theorem dX11_findMosts_4 : decode cX11_findMosts 4 = .ok (.if_icmp .gt 14, 3) := by decide +kernel
theorem dX11_findMosts_7 : decode cX11_findMosts 7 = .ok (.aload_n 0, 1) := by decide +kernel
theorem dX11_findMosts_8 : decode cX11_findMosts 8 = .ok (.iload_n 2, 1) := by decide +kernel
theorem dX11_findMosts_9 : decode cX11_findMosts 9 = .ok (.invokevirtual 323, 3) := by decide +kernel
theorem dX11_findMosts_12 : decode cX11_findMosts 12 = .ok (.iinc 2 1, 3) := by decide +kernel
theorem dX11_findMosts_15 : decode cX11_findMosts 15 = .ok (.goto (-13), 3) := by decide +kernel
theorem dX11_findMosts_18 : decode cX11_findMosts 18 = .ok (.return_, 1) := by decide +kernel
theorem dX11_canCall_0 : decode cX11_canCall 0 = .ok (.iconst 1, 1) := by decide +kernel
theorem dX11_canCall_1 : decode cX11_canCall 1 = .ok (.istore_n 3, 1) := by decide +kernel
theorem dX11_canCall_2 : decode cX11_canCall 2 = .ok (.iconst 0, 1) := by decide +kernel
theorem dX11_canCall_3 : decode cX11_canCall 3 = .ok (.istore 4, 2) := by decide +kernel
theorem dX11_canCall_5 : decode cX11_canCall 5 = .ok (.iload 4, 2) := by decide +kernel
theorem dX11_canCall_7 : decode cX11_canCall 7 = .ok (.aload_n 0, 1) := by decide +kernel
theorem dX11_canCall_8 : decode cX11_canCall 8 = .ok (.getfield 303, 3) := by decide +kernel
theorem dX11_canCall_11 : decode cX11_canCall 11 = .ok (.if_icmp .ge 38, 3) := by decide +kernel
theorem dX11_canCall_14 : decode cX11_canCall 14 = .ok (.iload_n 3, 1) := by decide +kernel
theorem dX11_canCall_15 : decode cX11_canCall 15 = .ok (.ifCond .eq 26, 3) := by decide +kernel
theorem dX11_canCall_18 : decode cX11_canCall 18 = .ok (.iload_n 1, 1) := by decide +kernel
theorem dX11_canCall_19 : decode cX11_canCall 19 = .ok (.iload 4, 2) := by decide +kernel
theorem dX11_canCall_21 : decode cX11_canCall 21 = .ok (.invokestatic 326, 3) := by decide +kernel
theorem dX11_canCall_24 : decode cX11_canCall 24 = .ok (.ifCond .eq 13, 3) := by decide +kernel
theorem dX11_canCall_27 : decode cX11_canCall 27 = .ok (.aload_n 0, 1) := by decide +kernel
theorem dX11_canCall_28 : decode cX11_canCall 28 = .ok (.iload 4, 2) := by decide +kernel
theorem dX11_canCall_30 : decode cX11_canCall 30 = .ok (.iload_n 2, 1) := by decide +kernel
theorem dX11_canCall_31 : decode cX11_canCall 31 = .ok (.invokevirtual 329, 3) := by decide +kernel
theorem dX11_canCall_34 : decode cX11_canCall 34 = .ok (.ifCond .eq 7, 3) := by decide +kernel
theorem dX11_canCall_37 : decode cX11_canCall 37 = .ok (.iconst 1, 1) := by decide +kernel
theorem dX11_canCall_38 : decode cX11_canCall 38 = .ok (.goto 4, 3) := by decide +kernel
theorem dX11_canCall_41 : decode cX11_canCall 41 = .ok (.iconst 0, 1) := by decide +kernel
theorem dX11_canCall_42 : decode cX11_canCall 42 = .ok (.istore_n 3, 1) := by decide +kernel
theorem dX11_canCall_43 : decode cX11_canCall 43 = .ok (.iinc 4 1, 3) := by decide +kernel
theorem dX11_canCall_46 : decode cX11_canCall 46 = .ok (.goto (-41), 3) := by decide +kernel
theorem dX11_canCall_49 : decode cX11_canCall 49 = .ok (.iload_n 3, 1) := by decide +kernel
theorem dX11_canCall_50 : decode cX11_canCall 50 = .ok (.ireturn, 1) := by decide +kernel
theorem dX11_valueOf_0 : decode cX11_valueOf 0 = .ok (.lconst 0, 1) := by decide +kernel
theorem dX11_valueOf_1 : decode cX11_valueOf 1 = .ok (.lstore_n 3, 1) := by decide +kernel
theorem dX11_valueOf_2 : decode cX11_valueOf 2 = .ok (.iconst 0, 1) := by decide +kernel
theorem dX11_valueOf_3 : decode cX11_valueOf 3 = .ok (.istore 5, 2) := by decide +kernel
theorem dX11_valueOf_5 : decode cX11_valueOf 5 = .ok (.iload 5, 2) := by decide +kernel
theorem dX11_valueOf_7 : decode cX11_valueOf 7 = .ok (.aload_n 0, 1) := by decide +kernel
theorem dX11_valueOf_8 : decode cX11_valueOf 8 = .ok (.getfield 303, 3) := by decide +kernel
theorem dX11_valueOf_11 : decode cX11_valueOf 11 = .ok (.if_icmp .ge 46, 3) := by decide +kernel
theorem dX11_valueOf_14 : decode cX11_valueOf 14 = .ok (.lload_n 3, 1) := by decide +kernel
theorem dX11_valueOf_15 : decode cX11_valueOf 15 = .ok (.iload_n 1, 1) := by decide +kernel
theorem dX11_valueOf_16 : decode cX11_valueOf 16 = .ok (.iload 5, 2) := by decide +kernel
theorem dX11_valueOf_18 : decode cX11_valueOf 18 = .ok (.invokestatic 326, 3) := by decide +kernel
theorem dX11_valueOf_21 : decode cX11_valueOf 21 = .ok (.ifCond .eq 27, 3) := by decide +kernel
theorem dX11_valueOf_24 : decode cX11_valueOf 24 = .ok (.aload_n 0, 1) := by decide +kernel
theorem dX11_valueOf_25 : decode cX11_valueOf 25 = .ok (.aload_n 0, 1) := by decide +kernel
theorem dX11_valueOf_26 : decode cX11_valueOf 26 = .ok (.getfield 84, 3) := by decide +kernel
theorem dX11_valueOf_29 : decode cX11_valueOf 29 = .ok (.iload 5, 2) := by decide +kernel
theorem dX11_valueOf_31 : decode cX11_valueOf 31 = .ok (.iaload, 1) := by decide +kernel
theorem dX11_valueOf_32 : decode cX11_valueOf 32 = .ok (.aload_n 0, 1) := by decide +kernel
theorem dX11_valueOf_33 : decode cX11_valueOf 33 = .ok (.getfield 223, 3) := by decide +kernel
theorem dX11_valueOf_36 : decode cX11_valueOf 36 = .ok (.iload_n 2, 1) := by decide +kernel
theorem dX11_valueOf_37 : decode cX11_valueOf 37 = .ok (.iadd, 1) := by decide +kernel
theorem dX11_valueOf_38 : decode cX11_valueOf 38 = .ok (.invokevirtual 260, 3) := by decide +kernel
theorem dX11_valueOf_41 : decode cX11_valueOf 41 = .ok (.i2l, 1) := by decide +kernel
theorem dX11_valueOf_42 : decode cX11_valueOf 42 = .ok (.bipush 30, 2) := by decide +kernel
theorem dX11_valueOf_44 : decode cX11_valueOf 44 = .ok (.lshl, 1) := by decide +kernel
theorem dX11_valueOf_45 : decode cX11_valueOf 45 = .ok (.goto 4, 3) := by decide +kernel
theorem dX11_valueOf_48 : decode cX11_valueOf 48 = .ok (.lconst 0, 1) := by decide +kernel
theorem dX11_valueOf_49 : decode cX11_valueOf 49 = .ok (.ladd, 1) := by decide +kernel
theorem dX11_valueOf_50 : decode cX11_valueOf 50 = .ok (.lstore_n 3, 1) := by decide +kernel
theorem dX11_valueOf_51 : decode cX11_valueOf 51 = .ok (.iinc 5 1, 3) := by decide +kernel
theorem dX11_valueOf_54 : decode cX11_valueOf 54 = .ok (.goto (-49), 3) := by decide +kernel
theorem dX11_valueOf_57 : decode cX11_valueOf 57 = .ok (.lload_n 3, 1) := by decide +kernel
theorem dX11_valueOf_58 : decode cX11_valueOf 58 = .ok (.lreturn, 1) := by decide +kernel
theorem dX11_wholeBy_0 : decode cX11_wholeBy 0 = .ok (.aload_n 0, 1) := by decide +kernel
theorem dX11_wholeBy_1 : decode cX11_wholeBy 1 = .ok (.getfield 47, 3) := by decide +kernel
theorem dX11_wholeBy_4 : decode cX11_wholeBy 4 = .ok (.iload_n 1, 1) := by decide +kernel
theorem dX11_wholeBy_5 : decode cX11_wholeBy 5 = .ok (.iaload, 1) := by decide +kernel
theorem dX11_wholeBy_6 : decode cX11_wholeBy 6 = .ok (.i2l, 1) := by decide +kernel
theorem dX11_wholeBy_7 : decode cX11_wholeBy 7 = .ok (.bipush 30, 2) := by decide +kernel
theorem dX11_wholeBy_9 : decode cX11_wholeBy 9 = .ok (.iload_n 2, 1) := by decide +kernel
theorem dX11_wholeBy_10 : decode cX11_wholeBy 10 = .ok (.isub, 1) := by decide +kernel
theorem dX11_wholeBy_11 : decode cX11_wholeBy 11 = .ok (.lshl, 1) := by decide +kernel
theorem dX11_wholeBy_12 : decode cX11_wholeBy 12 = .ok (.lstore 5, 2) := by decide +kernel
theorem dX11_wholeBy_14 : decode cX11_wholeBy 14 = .ok (.iconst 0, 1) := by decide +kernel
theorem dX11_wholeBy_15 : decode cX11_wholeBy 15 = .ok (.istore 7, 2) := by decide +kernel
theorem dX11_wholeBy_17 : decode cX11_wholeBy 17 = .ok (.iload 7, 2) := by decide +kernel
theorem dX11_wholeBy_19 : decode cX11_wholeBy 19 = .ok (.bipush 30, 2) := by decide +kernel
theorem dX11_wholeBy_21 : decode cX11_wholeBy 21 = .ok (.iload_n 2, 1) := by decide +kernel
theorem dX11_wholeBy_22 : decode cX11_wholeBy 22 = .ok (.isub, 1) := by decide +kernel
theorem dX11_wholeBy_23 : decode cX11_wholeBy 23 = .ok (.if_icmp .ge 38, 3) := by decide +kernel
theorem dX11_wholeBy_26 : decode cX11_wholeBy 26 = .ok (.lload 5, 2) := by decide +kernel
theorem dX11_wholeBy_28 : decode cX11_wholeBy 28 = .ok (.aload_n 0, 1) := by decide +kernel
theorem dX11_wholeBy_29 : decode cX11_wholeBy 29 = .ok (.getfield 50, 3) := by decide +kernel
theorem dX11_wholeBy_32 : decode cX11_wholeBy 32 = .ok (.sipush 400, 3) := by decide +kernel
theorem dX11_wholeBy_35 : decode cX11_wholeBy 35 = .ok (.iload_n 1, 1) := by decide +kernel
theorem dX11_wholeBy_36 : decode cX11_wholeBy 36 = .ok (.imul, 1) := by decide +kernel
theorem dX11_wholeBy_37 : decode cX11_wholeBy 37 = .ok (.iload 7, 2) := by decide +kernel
theorem dX11_wholeBy_39 : decode cX11_wholeBy 39 = .ok (.iadd, 1) := by decide +kernel
theorem dX11_wholeBy_40 : decode cX11_wholeBy 40 = .ok (.iaload, 1) := by decide +kernel
theorem dX11_wholeBy_41 : decode cX11_wholeBy 41 = .ok (.i2l, 1) := by decide +kernel
theorem dX11_wholeBy_42 : decode cX11_wholeBy 42 = .ok (.bipush 30, 2) := by decide +kernel
theorem dX11_wholeBy_44 : decode cX11_wholeBy 44 = .ok (.iload_n 2, 1) := by decide +kernel
theorem dX11_wholeBy_45 : decode cX11_wholeBy 45 = .ok (.isub, 1) := by decide +kernel
theorem dX11_wholeBy_46 : decode cX11_wholeBy 46 = .ok (.iconst 1, 1) := by decide +kernel
theorem dX11_wholeBy_47 : decode cX11_wholeBy 47 = .ok (.isub, 1) := by decide +kernel
theorem dX11_wholeBy_48 : decode cX11_wholeBy 48 = .ok (.iload 7, 2) := by decide +kernel
theorem dX11_wholeBy_50 : decode cX11_wholeBy 50 = .ok (.isub, 1) := by decide +kernel
theorem dX11_wholeBy_51 : decode cX11_wholeBy 51 = .ok (.lshl, 1) := by decide +kernel
theorem dX11_wholeBy_52 : decode cX11_wholeBy 52 = .ok (.ladd, 1) := by decide +kernel
theorem dX11_wholeBy_53 : decode cX11_wholeBy 53 = .ok (.lstore 5, 2) := by decide +kernel
theorem dX11_wholeBy_55 : decode cX11_wholeBy 55 = .ok (.iinc 7 1, 3) := by decide +kernel
theorem dX11_wholeBy_58 : decode cX11_wholeBy 58 = .ok (.goto (-41), 3) := by decide +kernel
theorem dX11_wholeBy_61 : decode cX11_wholeBy 61 = .ok (.lload 5, 2) := by decide +kernel
theorem dX11_wholeBy_63 : decode cX11_wholeBy 63 = .ok (.lload_n 3, 1) := by decide +kernel
theorem dX11_wholeBy_64 : decode cX11_wholeBy 64 = .ok (.ladd, 1) := by decide +kernel
theorem dX11_wholeBy_65 : decode cX11_wholeBy 65 = .ok (.bipush 30, 2) := by decide +kernel
theorem dX11_wholeBy_67 : decode cX11_wholeBy 67 = .ok (.lshr, 1) := by decide +kernel
theorem dX11_wholeBy_68 : decode cX11_wholeBy 68 = .ok (.lreturn, 1) := by decide +kernel
theorem dX11_unsettle_0 : decode cX11_unsettle 0 = .ok (.iconst 0, 1) := by decide +kernel
theorem dX11_unsettle_1 : decode cX11_unsettle 1 = .ok (.istore_n 1, 1) := by decide +kernel
theorem dX11_unsettle_2 : decode cX11_unsettle 2 = .ok (.iload_n 1, 1) := by decide +kernel
theorem dX11_unsettle_3 : decode cX11_unsettle 3 = .ok (.bipush 6, 2) := by decide +kernel
theorem dX11_unsettle_5 : decode cX11_unsettle 5 = .ok (.if_icmp .ge 16, 3) := by decide +kernel
theorem dX11_unsettle_8 : decode cX11_unsettle 8 = .ok (.aload_n 0, 1) := by decide +kernel
theorem dX11_unsettle_9 : decode cX11_unsettle 9 = .ok (.getfield 87, 3) := by decide +kernel
theorem dX11_unsettle_12 : decode cX11_unsettle 12 = .ok (.iload_n 1, 1) := by decide +kernel
theorem dX11_unsettle_13 : decode cX11_unsettle 13 = .ok (.iconst (-1), 1) := by decide +kernel
theorem dX11_unsettle_14 : decode cX11_unsettle 14 = .ok (.iastore, 1) := by decide +kernel
theorem dX11_unsettle_15 : decode cX11_unsettle 15 = .ok (.iinc 1 1, 3) := by decide +kernel
theorem dX11_unsettle_18 : decode cX11_unsettle 18 = .ok (.goto (-16), 3) := by decide +kernel
theorem dX11_unsettle_21 : decode cX11_unsettle 21 = .ok (.return_, 1) := by decide +kernel
theorem dX11_greatest_0 : decode cX11_greatest 0 = .ok (.lconst 0, 1) := by decide +kernel
theorem dX11_greatest_1 : decode cX11_greatest 1 = .ok (.lstore_n 1, 1) := by decide +kernel
theorem dX11_greatest_2 : decode cX11_greatest 2 = .ok (.iconst 0, 1) := by decide +kernel
theorem dX11_greatest_3 : decode cX11_greatest 3 = .ok (.istore_n 3, 1) := by decide +kernel
theorem dX11_greatest_4 : decode cX11_greatest 4 = .ok (.iload_n 3, 1) := by decide +kernel
theorem dX11_greatest_5 : decode cX11_greatest 5 = .ok (.bipush 64, 2) := by decide +kernel
theorem dX11_greatest_7 : decode cX11_greatest 7 = .ok (.if_icmp .ge 31, 3) := by decide +kernel
theorem dX11_greatest_10 : decode cX11_greatest 10 = .ok (.aload_n 0, 1) := by decide +kernel
theorem dX11_greatest_11 : decode cX11_greatest 11 = .ok (.getfield 90, 3) := by decide +kernel
theorem dX11_greatest_14 : decode cX11_greatest 14 = .ok (.iload_n 3, 1) := by decide +kernel
theorem dX11_greatest_15 : decode cX11_greatest 15 = .ok (.laload, 1) := by decide +kernel
theorem dX11_greatest_16 : decode cX11_greatest 16 = .ok (.lload_n 1, 1) := by decide +kernel
theorem dX11_greatest_17 : decode cX11_greatest 17 = .ok (.lcmp, 1) := by decide +kernel
theorem dX11_greatest_18 : decode cX11_greatest 18 = .ok (.ifCond .le 12, 3) := by decide +kernel
theorem dX11_greatest_21 : decode cX11_greatest 21 = .ok (.aload_n 0, 1) := by decide +kernel
theorem dX11_greatest_22 : decode cX11_greatest 22 = .ok (.getfield 90, 3) := by decide +kernel
theorem dX11_greatest_25 : decode cX11_greatest 25 = .ok (.iload_n 3, 1) := by decide +kernel
theorem dX11_greatest_26 : decode cX11_greatest 26 = .ok (.laload, 1) := by decide +kernel
theorem dX11_greatest_27 : decode cX11_greatest 27 = .ok (.goto 4, 3) := by decide +kernel
theorem dX11_greatest_30 : decode cX11_greatest 30 = .ok (.lload_n 1, 1) := by decide +kernel
theorem dX11_greatest_31 : decode cX11_greatest 31 = .ok (.lstore_n 1, 1) := by decide +kernel
theorem dX11_greatest_32 : decode cX11_greatest 32 = .ok (.iinc 3 1, 3) := by decide +kernel
theorem dX11_greatest_35 : decode cX11_greatest 35 = .ok (.goto (-31), 3) := by decide +kernel
theorem dX11_greatest_38 : decode cX11_greatest 38 = .ok (.lload_n 1, 1) := by decide +kernel
theorem dX11_greatest_39 : decode cX11_greatest 39 = .ok (.lreturn, 1) := by decide +kernel
theorem dX11_mostOn_0 : decode cX11_mostOn 0 = .ok (.aload_n 0, 1) := by decide +kernel
theorem dX11_mostOn_1 : decode cX11_mostOn 1 = .ok (.iload_n 1, 1) := by decide +kernel
theorem dX11_mostOn_2 : decode cX11_mostOn 2 = .ok (.invokevirtual 332, 3) := by decide +kernel
theorem dX11_mostOn_5 : decode cX11_mostOn 5 = .ok (.aload_n 0, 1) := by decide +kernel
theorem dX11_mostOn_6 : decode cX11_mostOn 6 = .ok (.invokevirtual 335, 3) := by decide +kernel
theorem dX11_mostOn_9 : decode cX11_mostOn 9 = .ok (.aload_n 0, 1) := by decide +kernel
theorem dX11_mostOn_10 : decode cX11_mostOn 10 = .ok (.iload_n 2, 1) := by decide +kernel
theorem dX11_mostOn_11 : decode cX11_mostOn 11 = .ok (.invokevirtual 338, 3) := by decide +kernel
theorem dX11_mostOn_14 : decode cX11_mostOn 14 = .ok (.aload_n 0, 1) := by decide +kernel
theorem dX11_mostOn_15 : decode cX11_mostOn 15 = .ok (.iload_n 1, 1) := by decide +kernel
theorem dX11_mostOn_16 : decode cX11_mostOn 16 = .ok (.iload_n 2, 1) := by decide +kernel
theorem dX11_mostOn_17 : decode cX11_mostOn 17 = .ok (.aload_n 0, 1) := by decide +kernel
theorem dX11_mostOn_18 : decode cX11_mostOn 18 = .ok (.invokevirtual 341, 3) := by decide +kernel
theorem dX11_mostOn_21 : decode cX11_mostOn 21 = .ok (.invokevirtual 345, 3) := by decide +kernel
theorem dX11_mostOn_24 : decode cX11_mostOn 24 = .ok (.lreturn, 1) := by decide +kernel
theorem dX11_most_0 : decode cX11_most 0 = .ok (.aload_n 0, 1) := by decide +kernel
theorem dX11_most_1 : decode cX11_most 1 = .ok (.iload_n 1, 1) := by decide +kernel
theorem dX11_most_2 : decode cX11_most 2 = .ok (.invokevirtual 244, 3) := by decide +kernel
theorem dX11_most_5 : decode cX11_most 5 = .ok (.ifCond .ne 6, 3) := by decide +kernel
theorem dX11_most_8 : decode cX11_most 8 = .ok (.ldc 248, 2) := by decide +kernel
theorem dX11_most_10 : decode cX11_most 10 = .ok (.ireturn, 1) := by decide +kernel
theorem dX11_most_11 : decode cX11_most 11 = .ok (.iload_n 2, 1) := by decide +kernel
theorem dX11_most_12 : decode cX11_most 12 = .ok (.i2l, 1) := by decide +kernel
theorem dX11_most_13 : decode cX11_most 13 = .ok (.lconst 0, 1) := by decide +kernel
theorem dX11_most_14 : decode cX11_most 14 = .ok (.ldc2_w 349, 3) := by decide +kernel
theorem dX11_most_17 : decode cX11_most 17 = .ok (.invokestatic 127, 3) := by decide +kernel
theorem dX11_most_20 : decode cX11_most 20 = .ok (.ifCond .ne 6, 3) := by decide +kernel
theorem dX11_most_23 : decode cX11_most 23 = .ok (.ldc 136, 2) := by decide +kernel
theorem dX11_most_25 : decode cX11_most 25 = .ok (.ireturn, 1) := by decide +kernel
theorem dX11_most_26 : decode cX11_most 26 = .ok (.aload_n 0, 1) := by decide +kernel
theorem dX11_most_27 : decode cX11_most 27 = .ok (.getfield 41, 3) := by decide +kernel
theorem dX11_most_30 : decode cX11_most 30 = .ok (.iload_n 1, 1) := by decide +kernel
theorem dX11_most_31 : decode cX11_most 31 = .ok (.iaload, 1) := by decide +kernel
theorem dX11_most_32 : decode cX11_most 32 = .ok (.ifCond .ne 15, 3) := by decide +kernel
theorem dX11_most_35 : decode cX11_most 35 = .ok (.aload_n 0, 1) := by decide +kernel
theorem dX11_most_36 : decode cX11_most 36 = .ok (.getfield 223, 3) := by decide +kernel
theorem dX11_most_39 : decode cX11_most 39 = .ok (.iload_n 2, 1) := by decide +kernel
theorem dX11_most_40 : decode cX11_most 40 = .ok (.iadd, 1) := by decide +kernel
theorem dX11_most_41 : decode cX11_most 41 = .ok (.sipush 399, 3) := by decide +kernel
theorem dX11_most_44 : decode cX11_most 44 = .ok (.if_icmp .le 6, 3) := by decide +kernel
theorem dX11_most_47 : decode cX11_most 47 = .ok (.ldc 232, 2) := by decide +kernel
theorem dX11_most_49 : decode cX11_most 49 = .ok (.ireturn, 1) := by decide +kernel
theorem dX11_most_50 : decode cX11_most 50 = .ok (.aload_n 0, 1) := by decide +kernel
theorem dX11_most_51 : decode cX11_most 51 = .ok (.iload_n 1, 1) := by decide +kernel
theorem dX11_most_52 : decode cX11_most 52 = .ok (.iload_n 2, 1) := by decide +kernel
theorem dX11_most_53 : decode cX11_most 53 = .ok (.invokevirtual 351, 3) := by decide +kernel
theorem dX11_most_56 : decode cX11_most 56 = .ok (.l2i, 1) := by decide +kernel
theorem dX11_most_57 : decode cX11_most 57 = .ok (.ireturn, 1) := by decide +kernel
theorem dX11_soonestOf_0 : decode cX11_soonestOf 0 = .ok (.aload_n 0, 1) := by decide +kernel
theorem dX11_soonestOf_1 : decode cX11_soonestOf 1 = .ok (.getfield 41, 3) := by decide +kernel
theorem dX11_soonestOf_4 : decode cX11_soonestOf 4 = .ok (.iload_n 1, 1) := by decide +kernel
theorem dX11_soonestOf_5 : decode cX11_soonestOf 5 = .ok (.iaload, 1) := by decide +kernel
theorem dX11_soonestOf_6 : decode cX11_soonestOf 6 = .ok (.ifCond .eq 5, 3) := by decide +kernel
theorem dX11_soonestOf_9 : decode cX11_soonestOf 9 = .ok (.iconst (-1), 1) := by decide +kernel
theorem dX11_soonestOf_10 : decode cX11_soonestOf 10 = .ok (.ireturn, 1) := by decide +kernel
theorem dX11_soonestOf_11 : decode cX11_soonestOf 11 = .ok (.aload_n 0, 1) := by decide +kernel
theorem dX11_soonestOf_12 : decode cX11_soonestOf 12 = .ok (.iload_n 1, 1) := by decide +kernel
theorem dX11_soonestOf_13 : decode cX11_soonestOf 13 = .ok (.invokevirtual 332, 3) := by decide +kernel
theorem dX11_soonestOf_16 : decode cX11_soonestOf 16 = .ok (.aload_n 0, 1) := by decide +kernel
theorem dX11_soonestOf_17 : decode cX11_soonestOf 17 = .ok (.invokevirtual 335, 3) := by decide +kernel
theorem dX11_soonestOf_20 : decode cX11_soonestOf 20 = .ok (.iconst 0, 1) := by decide +kernel
theorem dX11_soonestOf_21 : decode cX11_soonestOf 21 = .ok (.istore_n 2, 1) := by decide +kernel
theorem dX11_soonestOf_22 : decode cX11_soonestOf 22 = .ok (.iload_n 2, 1) := by decide +kernel
theorem dX11_soonestOf_23 : decode cX11_soonestOf 23 = .ok (.bipush 30, 2) := by decide +kernel
theorem dX11_soonestOf_25 : decode cX11_soonestOf 25 = .ok (.if_icmp .gt 53, 3) := by decide +kernel
theorem dX11_soonestOf_28 : decode cX11_soonestOf 28 = .ok (.aload_n 0, 1) := by decide +kernel
theorem dX11_soonestOf_29 : decode cX11_soonestOf 29 = .ok (.getfield 223, 3) := by decide +kernel
theorem dX11_soonestOf_32 : decode cX11_soonestOf 32 = .ok (.iload_n 2, 1) := by decide +kernel
theorem dX11_soonestOf_33 : decode cX11_soonestOf 33 = .ok (.iadd, 1) := by decide +kernel
theorem dX11_soonestOf_34 : decode cX11_soonestOf 34 = .ok (.sipush 399, 3) := by decide +kernel
theorem dX11_soonestOf_37 : decode cX11_soonestOf 37 = .ok (.if_icmp .gt 41, 3) := by decide +kernel
theorem dX11_soonestOf_40 : decode cX11_soonestOf 40 = .ok (.aload_n 0, 1) := by decide +kernel
theorem dX11_soonestOf_41 : decode cX11_soonestOf 41 = .ok (.iload_n 2, 1) := by decide +kernel
theorem dX11_soonestOf_42 : decode cX11_soonestOf 42 = .ok (.invokevirtual 323, 3) := by decide +kernel
theorem dX11_soonestOf_45 : decode cX11_soonestOf 45 = .ok (.aload_n 0, 1) := by decide +kernel
theorem dX11_soonestOf_46 : decode cX11_soonestOf 46 = .ok (.iload_n 1, 1) := by decide +kernel
theorem dX11_soonestOf_47 : decode cX11_soonestOf 47 = .ok (.iload_n 2, 1) := by decide +kernel
theorem dX11_soonestOf_48 : decode cX11_soonestOf 48 = .ok (.aload_n 0, 1) := by decide +kernel
theorem dX11_soonestOf_49 : decode cX11_soonestOf 49 = .ok (.invokevirtual 341, 3) := by decide +kernel
theorem dX11_soonestOf_52 : decode cX11_soonestOf 52 = .ok (.invokevirtual 345, 3) := by decide +kernel
theorem dX11_soonestOf_55 : decode cX11_soonestOf 55 = .ok (.ldc2_w 354, 3) := by decide +kernel
theorem dX11_soonestOf_58 : decode cX11_soonestOf 58 = .ok (.aload_n 0, 1) := by decide +kernel
theorem dX11_soonestOf_59 : decode cX11_soonestOf 59 = .ok (.getfield 7, 3) := by decide +kernel
theorem dX11_soonestOf_62 : decode cX11_soonestOf 62 = .ok (.iload_n 1, 1) := by decide +kernel
theorem dX11_soonestOf_63 : decode cX11_soonestOf 63 = .ok (.iaload, 1) := by decide +kernel
theorem dX11_soonestOf_64 : decode cX11_soonestOf 64 = .ok (.i2l, 1) := by decide +kernel
theorem dX11_soonestOf_65 : decode cX11_soonestOf 65 = .ok (.lmul, 1) := by decide +kernel
theorem dX11_soonestOf_66 : decode cX11_soonestOf 66 = .ok (.lcmp, 1) := by decide +kernel
theorem dX11_soonestOf_67 : decode cX11_soonestOf 67 = .ok (.ifCond .lt 5, 3) := by decide +kernel
theorem dX11_soonestOf_70 : decode cX11_soonestOf 70 = .ok (.iload_n 2, 1) := by decide +kernel
theorem dX11_soonestOf_71 : decode cX11_soonestOf 71 = .ok (.ireturn, 1) := by decide +kernel
theorem dX11_soonestOf_72 : decode cX11_soonestOf 72 = .ok (.iinc 2 1, 3) := by decide +kernel
theorem dX11_soonestOf_75 : decode cX11_soonestOf 75 = .ok (.goto (-53), 3) := by decide +kernel
theorem dX11_soonestOf_78 : decode cX11_soonestOf 78 = .ok (.iconst (-1), 1) := by decide +kernel
theorem dX11_soonestOf_79 : decode cX11_soonestOf 79 = .ok (.ireturn, 1) := by decide +kernel
theorem dX11_soonest_0 : decode cX11_soonest 0 = .ok (.aload_n 0, 1) := by decide +kernel
theorem dX11_soonest_1 : decode cX11_soonest 1 = .ok (.iload_n 1, 1) := by decide +kernel
theorem dX11_soonest_2 : decode cX11_soonest 2 = .ok (.invokevirtual 244, 3) := by decide +kernel
theorem dX11_soonest_5 : decode cX11_soonest 5 = .ok (.ifCond .eq 11, 3) := by decide +kernel
theorem dX11_soonest_8 : decode cX11_soonest 8 = .ok (.aload_n 0, 1) := by decide +kernel
theorem dX11_soonest_9 : decode cX11_soonest 9 = .ok (.iload_n 1, 1) := by decide +kernel
theorem dX11_soonest_10 : decode cX11_soonest 10 = .ok (.invokevirtual 356, 3) := by decide +kernel
theorem dX11_soonest_13 : decode cX11_soonest 13 = .ok (.goto 5, 3) := by decide +kernel
theorem dX11_soonest_16 : decode cX11_soonest 16 = .ok (.ldc 248, 2) := by decide +kernel
theorem dX11_soonest_18 : decode cX11_soonest 18 = .ok (.ireturn, 1) := by decide +kernel
theorem dX11_isEnoughBy_0 : decode cX11_isEnoughBy 0 = .ok (.aload_n 0, 1) := by decide +kernel
theorem dX11_isEnoughBy_1 : decode cX11_isEnoughBy 1 = .ok (.iload_n 2, 1) := by decide +kernel
theorem dX11_isEnoughBy_2 : decode cX11_isEnoughBy 2 = .ok (.invokevirtual 338, 3) := by decide +kernel
theorem dX11_isEnoughBy_5 : decode cX11_isEnoughBy 5 = .ok (.aload_n 0, 1) := by decide +kernel
theorem dX11_isEnoughBy_6 : decode cX11_isEnoughBy 6 = .ok (.getfield 90, 3) := by decide +kernel
theorem dX11_isEnoughBy_9 : decode cX11_isEnoughBy 9 = .ok (.iload_n 3, 1) := by decide +kernel
theorem dX11_isEnoughBy_10 : decode cX11_isEnoughBy 10 = .ok (.laload, 1) := by decide +kernel
theorem dX11_isEnoughBy_11 : decode cX11_isEnoughBy 11 = .ok (.lconst 0, 1) := by decide +kernel
theorem dX11_isEnoughBy_12 : decode cX11_isEnoughBy 12 = .ok (.lcmp, 1) := by decide +kernel
theorem dX11_isEnoughBy_13 : decode cX11_isEnoughBy 13 = .ok (.ifCond .lt 34, 3) := by decide +kernel
theorem dX11_isEnoughBy_16 : decode cX11_isEnoughBy 16 = .ok (.aload_n 0, 1) := by decide +kernel
theorem dX11_isEnoughBy_17 : decode cX11_isEnoughBy 17 = .ok (.iload_n 1, 1) := by decide +kernel
theorem dX11_isEnoughBy_18 : decode cX11_isEnoughBy 18 = .ok (.iload_n 2, 1) := by decide +kernel
theorem dX11_isEnoughBy_19 : decode cX11_isEnoughBy 19 = .ok (.aload_n 0, 1) := by decide +kernel
theorem dX11_isEnoughBy_20 : decode cX11_isEnoughBy 20 = .ok (.getfield 90, 3) := by decide +kernel
theorem dX11_isEnoughBy_23 : decode cX11_isEnoughBy 23 = .ok (.iload_n 3, 1) := by decide +kernel
theorem dX11_isEnoughBy_24 : decode cX11_isEnoughBy 24 = .ok (.laload, 1) := by decide +kernel
theorem dX11_isEnoughBy_25 : decode cX11_isEnoughBy 25 = .ok (.invokevirtual 345, 3) := by decide +kernel
theorem dX11_isEnoughBy_28 : decode cX11_isEnoughBy 28 = .ok (.ldc2_w 354, 3) := by decide +kernel
theorem dX11_isEnoughBy_31 : decode cX11_isEnoughBy 31 = .ok (.aload_n 0, 1) := by decide +kernel
theorem dX11_isEnoughBy_32 : decode cX11_isEnoughBy 32 = .ok (.getfield 7, 3) := by decide +kernel
theorem dX11_isEnoughBy_35 : decode cX11_isEnoughBy 35 = .ok (.iload_n 1, 1) := by decide +kernel
theorem dX11_isEnoughBy_36 : decode cX11_isEnoughBy 36 = .ok (.iaload, 1) := by decide +kernel
theorem dX11_isEnoughBy_37 : decode cX11_isEnoughBy 37 = .ok (.i2l, 1) := by decide +kernel
theorem dX11_isEnoughBy_38 : decode cX11_isEnoughBy 38 = .ok (.lmul, 1) := by decide +kernel
theorem dX11_isEnoughBy_39 : decode cX11_isEnoughBy 39 = .ok (.lcmp, 1) := by decide +kernel
theorem dX11_isEnoughBy_40 : decode cX11_isEnoughBy 40 = .ok (.ifCond .lt 7, 3) := by decide +kernel
theorem dX11_isEnoughBy_43 : decode cX11_isEnoughBy 43 = .ok (.iconst 1, 1) := by decide +kernel
theorem dX11_isEnoughBy_44 : decode cX11_isEnoughBy 44 = .ok (.goto 4, 3) := by decide +kernel
theorem dX11_isEnoughBy_47 : decode cX11_isEnoughBy 47 = .ok (.iconst 0, 1) := by decide +kernel
theorem dX11_isEnoughBy_48 : decode cX11_isEnoughBy 48 = .ok (.ireturn, 1) := by decide +kernel
theorem dX11_findPlan_0 : decode cX11_findPlan 0 = .ok (.aload_n 0, 1) := by decide +kernel
theorem dX11_findPlan_1 : decode cX11_findPlan 1 = .ok (.iload_n 1, 1) := by decide +kernel
theorem dX11_findPlan_2 : decode cX11_findPlan 2 = .ok (.invokevirtual 356, 3) := by decide +kernel
theorem dX11_findPlan_5 : decode cX11_findPlan 5 = .ok (.istore_n 2, 1) := by decide +kernel
theorem dX11_findPlan_6 : decode cX11_findPlan 6 = .ok (.iload_n 2, 1) := by decide +kernel
theorem dX11_findPlan_7 : decode cX11_findPlan 7 = .ok (.ifCond .ge 5, 3) := by decide +kernel
theorem dX11_findPlan_10 : decode cX11_findPlan 10 = .ok (.iconst (-1), 1) := by decide +kernel
theorem dX11_findPlan_11 : decode cX11_findPlan 11 = .ok (.ireturn, 1) := by decide +kernel
theorem dX11_findPlan_12 : decode cX11_findPlan 12 = .ok (.aload_n 0, 1) := by decide +kernel
theorem dX11_findPlan_13 : decode cX11_findPlan 13 = .ok (.iload_n 1, 1) := by decide +kernel
theorem dX11_findPlan_14 : decode cX11_findPlan 14 = .ok (.invokevirtual 332, 3) := by decide +kernel
theorem dX11_findPlan_17 : decode cX11_findPlan 17 = .ok (.aload_n 0, 1) := by decide +kernel
theorem dX11_findPlan_18 : decode cX11_findPlan 18 = .ok (.invokevirtual 335, 3) := by decide +kernel
theorem dX11_findPlan_21 : decode cX11_findPlan 21 = .ok (.aload_n 0, 1) := by decide +kernel
theorem dX11_findPlan_22 : decode cX11_findPlan 22 = .ok (.iload_n 2, 1) := by decide +kernel
theorem dX11_findPlan_23 : decode cX11_findPlan 23 = .ok (.invokevirtual 338, 3) := by decide +kernel
theorem dX11_findPlan_26 : decode cX11_findPlan 26 = .ok (.iconst (-1), 1) := by decide +kernel
theorem dX11_findPlan_27 : decode cX11_findPlan 27 = .ok (.istore_n 3, 1) := by decide +kernel
theorem dX11_findPlan_28 : decode cX11_findPlan 28 = .ok (.iconst 0, 1) := by decide +kernel
theorem dX11_findPlan_29 : decode cX11_findPlan 29 = .ok (.istore 4, 2) := by decide +kernel
theorem dX11_findPlan_31 : decode cX11_findPlan 31 = .ok (.iload 4, 2) := by decide +kernel
theorem dX11_findPlan_33 : decode cX11_findPlan 33 = .ok (.iconst 1, 1) := by decide +kernel
theorem dX11_findPlan_34 : decode cX11_findPlan 34 = .ok (.aload_n 0, 1) := by decide +kernel
theorem dX11_findPlan_35 : decode cX11_findPlan 35 = .ok (.getfield 303, 3) := by decide +kernel
theorem dX11_findPlan_38 : decode cX11_findPlan 38 = .ok (.ishl, 1) := by decide +kernel
theorem dX11_findPlan_39 : decode cX11_findPlan 39 = .ok (.if_icmp .ge 84, 3) := by decide +kernel
theorem dX11_findPlan_42 : decode cX11_findPlan 42 = .ok (.aload_n 0, 1) := by decide +kernel
theorem dX11_findPlan_43 : decode cX11_findPlan 43 = .ok (.getfield 90, 3) := by decide +kernel
theorem dX11_findPlan_46 : decode cX11_findPlan 46 = .ok (.iload 4, 2) := by decide +kernel
theorem dX11_findPlan_48 : decode cX11_findPlan 48 = .ok (.laload, 1) := by decide +kernel
theorem dX11_findPlan_49 : decode cX11_findPlan 49 = .ok (.lconst 0, 1) := by decide +kernel
theorem dX11_findPlan_50 : decode cX11_findPlan 50 = .ok (.lcmp, 1) := by decide +kernel
theorem dX11_findPlan_51 : decode cX11_findPlan 51 = .ok (.ifCond .lt 35, 3) := by decide +kernel
theorem dX11_findPlan_54 : decode cX11_findPlan 54 = .ok (.aload_n 0, 1) := by decide +kernel
theorem dX11_findPlan_55 : decode cX11_findPlan 55 = .ok (.iload_n 1, 1) := by decide +kernel
theorem dX11_findPlan_56 : decode cX11_findPlan 56 = .ok (.iload_n 2, 1) := by decide +kernel
theorem dX11_findPlan_57 : decode cX11_findPlan 57 = .ok (.aload_n 0, 1) := by decide +kernel
theorem dX11_findPlan_58 : decode cX11_findPlan 58 = .ok (.getfield 90, 3) := by decide +kernel
theorem dX11_findPlan_61 : decode cX11_findPlan 61 = .ok (.iload 4, 2) := by decide +kernel
theorem dX11_findPlan_63 : decode cX11_findPlan 63 = .ok (.laload, 1) := by decide +kernel
theorem dX11_findPlan_64 : decode cX11_findPlan 64 = .ok (.invokevirtual 345, 3) := by decide +kernel
theorem dX11_findPlan_67 : decode cX11_findPlan 67 = .ok (.ldc2_w 354, 3) := by decide +kernel
theorem dX11_findPlan_70 : decode cX11_findPlan 70 = .ok (.aload_n 0, 1) := by decide +kernel
theorem dX11_findPlan_71 : decode cX11_findPlan 71 = .ok (.getfield 7, 3) := by decide +kernel
theorem dX11_findPlan_74 : decode cX11_findPlan 74 = .ok (.iload_n 1, 1) := by decide +kernel
theorem dX11_findPlan_75 : decode cX11_findPlan 75 = .ok (.iaload, 1) := by decide +kernel
theorem dX11_findPlan_76 : decode cX11_findPlan 76 = .ok (.i2l, 1) := by decide +kernel
theorem dX11_findPlan_77 : decode cX11_findPlan 77 = .ok (.lmul, 1) := by decide +kernel
theorem dX11_findPlan_78 : decode cX11_findPlan 78 = .ok (.lcmp, 1) := by decide +kernel
theorem dX11_findPlan_79 : decode cX11_findPlan 79 = .ok (.ifCond .lt 7, 3) := by decide +kernel
theorem dX11_findPlan_82 : decode cX11_findPlan 82 = .ok (.iconst 1, 1) := by decide +kernel
theorem dX11_findPlan_83 : decode cX11_findPlan 83 = .ok (.goto 4, 3) := by decide +kernel
theorem dX11_findPlan_86 : decode cX11_findPlan 86 = .ok (.iconst 0, 1) := by decide +kernel
theorem dX11_findPlan_87 : decode cX11_findPlan 87 = .ok (.istore 5, 2) := by decide +kernel
theorem dX11_findPlan_89 : decode cX11_findPlan 89 = .ok (.iload 5, 2) := by decide +kernel
theorem dX11_findPlan_91 : decode cX11_findPlan 91 = .ok (.ifCond .eq 24, 3) := by decide +kernel
theorem dX11_findPlan_94 : decode cX11_findPlan 94 = .ok (.iload_n 3, 1) := by decide +kernel
theorem dX11_findPlan_95 : decode cX11_findPlan 95 = .ok (.ifCond .lt 15, 3) := by decide +kernel
theorem dX11_findPlan_98 : decode cX11_findPlan 98 = .ok (.iload 4, 2) := by decide +kernel
theorem dX11_findPlan_100 : decode cX11_findPlan 100 = .ok (.invokestatic 313, 3) := by decide +kernel
theorem dX11_findPlan_103 : decode cX11_findPlan 103 = .ok (.iload_n 3, 1) := by decide +kernel
theorem dX11_findPlan_104 : decode cX11_findPlan 104 = .ok (.invokestatic 313, 3) := by decide +kernel
theorem dX11_findPlan_107 : decode cX11_findPlan 107 = .ok (.if_icmp .ge 8, 3) := by decide +kernel
theorem dX11_findPlan_110 : decode cX11_findPlan 110 = .ok (.iload 4, 2) := by decide +kernel
theorem dX11_findPlan_112 : decode cX11_findPlan 112 = .ok (.goto 4, 3) := by decide +kernel
theorem dX11_findPlan_115 : decode cX11_findPlan 115 = .ok (.iload_n 3, 1) := by decide +kernel
theorem dX11_findPlan_116 : decode cX11_findPlan 116 = .ok (.istore_n 3, 1) := by decide +kernel
theorem dX11_findPlan_117 : decode cX11_findPlan 117 = .ok (.iinc 4 1, 3) := by decide +kernel
theorem dX11_findPlan_120 : decode cX11_findPlan 120 = .ok (.goto (-89), 3) := by decide +kernel
theorem dX11_findPlan_123 : decode cX11_findPlan 123 = .ok (.iconst 0, 1) := by decide +kernel
theorem dX11_findPlan_124 : decode cX11_findPlan 124 = .ok (.istore 4, 2) := by decide +kernel
theorem dX11_findPlan_126 : decode cX11_findPlan 126 = .ok (.iload 4, 2) := by decide +kernel
theorem dX11_findPlan_128 : decode cX11_findPlan 128 = .ok (.aload_n 0, 1) := by decide +kernel
theorem dX11_findPlan_129 : decode cX11_findPlan 129 = .ok (.getfield 303, 3) := by decide +kernel
theorem dX11_findPlan_132 : decode cX11_findPlan 132 = .ok (.if_icmp .ge 50, 3) := by decide +kernel
theorem dX11_findPlan_135 : decode cX11_findPlan 135 = .ok (.iload_n 3, 1) := by decide +kernel
theorem dX11_findPlan_136 : decode cX11_findPlan 136 = .ok (.iload 4, 2) := by decide +kernel
theorem dX11_findPlan_138 : decode cX11_findPlan 138 = .ok (.invokestatic 326, 3) := by decide +kernel
theorem dX11_findPlan_141 : decode cX11_findPlan 141 = .ok (.ifCond .eq 35, 3) := by decide +kernel
theorem dX11_findPlan_144 : decode cX11_findPlan 144 = .ok (.aload_n 0, 1) := by decide +kernel
theorem dX11_findPlan_145 : decode cX11_findPlan 145 = .ok (.getfield 87, 3) := by decide +kernel
theorem dX11_findPlan_148 : decode cX11_findPlan 148 = .ok (.iload 4, 2) := by decide +kernel
theorem dX11_findPlan_150 : decode cX11_findPlan 150 = .ok (.iload_n 2, 1) := by decide +kernel
theorem dX11_findPlan_151 : decode cX11_findPlan 151 = .ok (.iastore, 1) := by decide +kernel
theorem dX11_findPlan_152 : decode cX11_findPlan 152 = .ok (.aload_n 0, 1) := by decide +kernel
theorem dX11_findPlan_153 : decode cX11_findPlan 153 = .ok (.iload_n 1, 1) := by decide +kernel
theorem dX11_findPlan_154 : decode cX11_findPlan 154 = .ok (.iload_n 2, 1) := by decide +kernel
theorem dX11_findPlan_155 : decode cX11_findPlan 155 = .ok (.iload_n 3, 1) := by decide +kernel
theorem dX11_findPlan_156 : decode cX11_findPlan 156 = .ok (.invokevirtual 359, 3) := by decide +kernel
theorem dX11_findPlan_159 : decode cX11_findPlan 159 = .ok (.ifCond .ne 17, 3) := by decide +kernel
theorem dX11_findPlan_162 : decode cX11_findPlan 162 = .ok (.aload_n 0, 1) := by decide +kernel
theorem dX11_findPlan_163 : decode cX11_findPlan 163 = .ok (.getfield 87, 3) := by decide +kernel
theorem dX11_findPlan_166 : decode cX11_findPlan 166 = .ok (.iload 4, 2) := by decide +kernel
theorem dX11_findPlan_168 : decode cX11_findPlan 168 = .ok (.dup2, 1) := by decide +kernel
theorem dX11_findPlan_169 : decode cX11_findPlan 169 = .ok (.iaload, 1) := by decide +kernel
theorem dX11_findPlan_170 : decode cX11_findPlan 170 = .ok (.iconst 1, 1) := by decide +kernel
theorem dX11_findPlan_171 : decode cX11_findPlan 171 = .ok (.isub, 1) := by decide +kernel
theorem dX11_findPlan_172 : decode cX11_findPlan 172 = .ok (.iastore, 1) := by decide +kernel
theorem dX11_findPlan_173 : decode cX11_findPlan 173 = .ok (.goto (-21), 3) := by decide +kernel
theorem dX11_findPlan_176 : decode cX11_findPlan 176 = .ok (.iinc 4 1, 3) := by decide +kernel
theorem dX11_findPlan_179 : decode cX11_findPlan 179 = .ok (.goto (-53), 3) := by decide +kernel
theorem dX11_findPlan_182 : decode cX11_findPlan 182 = .ok (.iload_n 3, 1) := by decide +kernel
theorem dX11_findPlan_183 : decode cX11_findPlan 183 = .ok (.ireturn, 1) := by decide +kernel
theorem dX11_plan_0 : decode cX11_plan 0 = .ok (.aload_n 0, 1) := by decide +kernel
theorem dX11_plan_1 : decode cX11_plan 1 = .ok (.iload_n 1, 1) := by decide +kernel
theorem dX11_plan_2 : decode cX11_plan 2 = .ok (.invokevirtual 257, 3) := by decide +kernel
theorem dX11_plan_5 : decode cX11_plan 5 = .ok (.ifCond .ne 6, 3) := by decide +kernel
theorem dX11_plan_8 : decode cX11_plan 8 = .ok (.ldc 248, 2) := by decide +kernel
theorem dX11_plan_10 : decode cX11_plan 10 = .ok (.ireturn, 1) := by decide +kernel
theorem dX11_plan_11 : decode cX11_plan 11 = .ok (.aload_n 0, 1) := by decide +kernel
theorem dX11_plan_12 : decode cX11_plan 12 = .ok (.aload_n 0, 1) := by decide +kernel
theorem dX11_plan_13 : decode cX11_plan 13 = .ok (.getfield 19, 3) := by decide +kernel
theorem dX11_plan_16 : decode cX11_plan 16 = .ok (.iload_n 1, 1) := by decide +kernel
theorem dX11_plan_17 : decode cX11_plan 17 = .ok (.iaload, 1) := by decide +kernel
theorem dX11_plan_18 : decode cX11_plan 18 = .ok (.invokevirtual 363, 3) := by decide +kernel
theorem dX11_plan_21 : decode cX11_plan 21 = .ok (.istore_n 2, 1) := by decide +kernel
theorem dX11_plan_22 : decode cX11_plan 22 = .ok (.iconst (-1), 1) := by decide +kernel
theorem dX11_plan_23 : decode cX11_plan 23 = .ok (.istore_n 3, 1) := by decide +kernel
theorem dX11_plan_24 : decode cX11_plan 24 = .ok (.iconst 0, 1) := by decide +kernel
theorem dX11_plan_25 : decode cX11_plan 25 = .ok (.istore 4, 2) := by decide +kernel
theorem dX11_plan_27 : decode cX11_plan 27 = .ok (.iload 4, 2) := by decide +kernel
theorem dX11_plan_29 : decode cX11_plan 29 = .ok (.aload_n 0, 1) := by decide +kernel
theorem dX11_plan_30 : decode cX11_plan 30 = .ok (.getfield 303, 3) := by decide +kernel
theorem dX11_plan_33 : decode cX11_plan 33 = .ok (.if_icmp .ge 45, 3) := by decide +kernel
theorem dX11_plan_36 : decode cX11_plan 36 = .ok (.iload_n 2, 1) := by decide +kernel
theorem dX11_plan_37 : decode cX11_plan 37 = .ok (.ifCond .lt 41, 3) := by decide +kernel
theorem dX11_plan_40 : decode cX11_plan 40 = .ok (.aload_n 0, 1) := by decide +kernel
theorem dX11_plan_41 : decode cX11_plan 41 = .ok (.getfield 84, 3) := by decide +kernel
theorem dX11_plan_44 : decode cX11_plan 44 = .ok (.iload 4, 2) := by decide +kernel
theorem dX11_plan_46 : decode cX11_plan 46 = .ok (.iaload, 1) := by decide +kernel
theorem dX11_plan_47 : decode cX11_plan 47 = .ok (.iload_n 1, 1) := by decide +kernel
theorem dX11_plan_48 : decode cX11_plan 48 = .ok (.if_icmp .ne 22, 3) := by decide +kernel
theorem dX11_plan_51 : decode cX11_plan 51 = .ok (.iload_n 2, 1) := by decide +kernel
theorem dX11_plan_52 : decode cX11_plan 52 = .ok (.iload 4, 2) := by decide +kernel
theorem dX11_plan_54 : decode cX11_plan 54 = .ok (.invokestatic 326, 3) := by decide +kernel
theorem dX11_plan_57 : decode cX11_plan 57 = .ok (.ifCond .eq 13, 3) := by decide +kernel
theorem dX11_plan_60 : decode cX11_plan 60 = .ok (.aload_n 0, 1) := by decide +kernel
theorem dX11_plan_61 : decode cX11_plan 61 = .ok (.getfield 87, 3) := by decide +kernel
theorem dX11_plan_64 : decode cX11_plan 64 = .ok (.iload 4, 2) := by decide +kernel
theorem dX11_plan_66 : decode cX11_plan 66 = .ok (.iaload, 1) := by decide +kernel
theorem dX11_plan_67 : decode cX11_plan 67 = .ok (.goto 4, 3) := by decide +kernel
theorem dX11_plan_70 : decode cX11_plan 70 = .ok (.iload_n 3, 1) := by decide +kernel
theorem dX11_plan_71 : decode cX11_plan 71 = .ok (.istore_n 3, 1) := by decide +kernel
theorem dX11_plan_72 : decode cX11_plan 72 = .ok (.iinc 4 1, 3) := by decide +kernel
theorem dX11_plan_75 : decode cX11_plan 75 = .ok (.goto (-48), 3) := by decide +kernel
theorem dX11_plan_78 : decode cX11_plan 78 = .ok (.iload_n 3, 1) := by decide +kernel
theorem dX11_plan_79 : decode cX11_plan 79 = .ok (.ireturn, 1) := by decide +kernel
theorem dX11_cut_0 : decode cX11_cut 0 = .ok (.aload_n 0, 1) := by decide +kernel
theorem dX11_cut_1 : decode cX11_cut 1 = .ok (.iload_n 1, 1) := by decide +kernel
theorem dX11_cut_2 : decode cX11_cut 2 = .ok (.invokevirtual 244, 3) := by decide +kernel
theorem dX11_cut_5 : decode cX11_cut 5 = .ok (.ifCond .ne 6, 3) := by decide +kernel
theorem dX11_cut_8 : decode cX11_cut 8 = .ok (.ldc 248, 2) := by decide +kernel
theorem dX11_cut_10 : decode cX11_cut 10 = .ok (.ireturn, 1) := by decide +kernel
theorem dX11_cut_11 : decode cX11_cut 11 = .ok (.aload_n 0, 1) := by decide +kernel
theorem dX11_cut_12 : decode cX11_cut 12 = .ok (.getfield 41, 3) := by decide +kernel
theorem dX11_cut_15 : decode cX11_cut 15 = .ok (.iload_n 1, 1) := by decide +kernel
theorem dX11_cut_16 : decode cX11_cut 16 = .ok (.iaload, 1) := by decide +kernel
theorem dX11_cut_17 : decode cX11_cut 17 = .ok (.ifCond .eq 6, 3) := by decide +kernel
theorem dX11_cut_20 : decode cX11_cut 20 = .ok (.ldc 232, 2) := by decide +kernel
theorem dX11_cut_22 : decode cX11_cut 22 = .ok (.ireturn, 1) := by decide +kernel
theorem dX11_cut_23 : decode cX11_cut 23 = .ok (.aload_n 0, 1) := by decide +kernel
theorem dX11_cut_24 : decode cX11_cut 24 = .ok (.iload_n 1, 1) := by decide +kernel
theorem dX11_cut_25 : decode cX11_cut 25 = .ok (.invokevirtual 268, 3) := by decide +kernel
theorem dX11_cut_28 : decode cX11_cut 28 = .ok (.ifCond .eq 5, 3) := by decide +kernel
theorem dX11_cut_31 : decode cX11_cut 31 = .ok (.iconst (-1), 1) := by decide +kernel
theorem dX11_cut_32 : decode cX11_cut 32 = .ok (.ireturn, 1) := by decide +kernel
theorem dX11_cut_33 : decode cX11_cut 33 = .ok (.iconst 0, 1) := by decide +kernel
theorem dX11_cut_34 : decode cX11_cut 34 = .ok (.istore_n 2, 1) := by decide +kernel
theorem dX11_cut_35 : decode cX11_cut 35 = .ok (.iload_n 2, 1) := by decide +kernel
theorem dX11_cut_36 : decode cX11_cut 36 = .ok (.bipush 12, 2) := by decide +kernel
theorem dX11_cut_38 : decode cX11_cut 38 = .ok (.if_icmp .ge 21, 3) := by decide +kernel
theorem dX11_cut_41 : decode cX11_cut 41 = .ok (.aload_n 0, 1) := by decide +kernel
theorem dX11_cut_42 : decode cX11_cut 42 = .ok (.getfield 97, 3) := by decide +kernel
theorem dX11_cut_45 : decode cX11_cut 45 = .ok (.iload_n 2, 1) := by decide +kernel
theorem dX11_cut_46 : decode cX11_cut 46 = .ok (.aload_n 0, 1) := by decide +kernel
theorem dX11_cut_47 : decode cX11_cut 47 = .ok (.getfield 37, 3) := by decide +kernel
theorem dX11_cut_50 : decode cX11_cut 50 = .ok (.iload_n 2, 1) := by decide +kernel
theorem dX11_cut_51 : decode cX11_cut 51 = .ok (.baload, 1) := by decide +kernel
theorem dX11_cut_52 : decode cX11_cut 52 = .ok (.bastore, 1) := by decide +kernel
theorem dX11_cut_53 : decode cX11_cut 53 = .ok (.iinc 2 1, 3) := by decide +kernel
theorem dX11_cut_56 : decode cX11_cut 56 = .ok (.goto (-21), 3) := by decide +kernel
theorem dX11_cut_59 : decode cX11_cut 59 = .ok (.aload_n 0, 1) := by decide +kernel
theorem dX11_cut_60 : decode cX11_cut 60 = .ok (.iload_n 1, 1) := by decide +kernel
theorem dX11_cut_61 : decode cX11_cut 61 = .ok (.invokevirtual 249, 3) := by decide +kernel
theorem dX11_cut_64 : decode cX11_cut 64 = .ok (.istore_n 2, 1) := by decide +kernel
theorem dX11_cut_65 : decode cX11_cut 65 = .ok (.iconst (-1), 1) := by decide +kernel
theorem dX11_cut_66 : decode cX11_cut 66 = .ok (.istore_n 3, 1) := by decide +kernel
theorem dX11_cut_67 : decode cX11_cut 67 = .ok (.iconst 0, 1) := by decide +kernel
theorem dX11_cut_68 : decode cX11_cut 68 = .ok (.istore 4, 2) := by decide +kernel
theorem dX11_cut_70 : decode cX11_cut 70 = .ok (.iload 4, 2) := by decide +kernel
theorem dX11_cut_72 : decode cX11_cut 72 = .ok (.sipush 4096, 3) := by decide +kernel
theorem dX11_cut_75 : decode cX11_cut 75 = .ok (.if_icmp .ge 97, 3) := by decide +kernel
theorem dX11_cut_78 : decode cX11_cut 78 = .ok (.iload 4, 2) := by decide +kernel
theorem dX11_cut_80 : decode cX11_cut 80 = .ok (.iload_n 2, 1) := by decide +kernel
theorem dX11_cut_81 : decode cX11_cut 81 = .ok (.iconst (-1), 1) := by decide +kernel
theorem dX11_cut_82 : decode cX11_cut 82 = .ok (.ixor, 1) := by decide +kernel
theorem dX11_cut_83 : decode cX11_cut 83 = .ok (.iand, 1) := by decide +kernel
theorem dX11_cut_84 : decode cX11_cut 84 = .ok (.ifCond .ne 82, 3) := by decide +kernel
theorem dX11_cut_87 : decode cX11_cut 87 = .ok (.iload_n 3, 1) := by decide +kernel
theorem dX11_cut_88 : decode cX11_cut 88 = .ok (.ifCond .lt 15, 3) := by decide +kernel
theorem dX11_cut_91 : decode cX11_cut 91 = .ok (.iload 4, 2) := by decide +kernel
theorem dX11_cut_93 : decode cX11_cut 93 = .ok (.invokestatic 313, 3) := by decide +kernel
theorem dX11_cut_96 : decode cX11_cut 96 = .ok (.iload_n 3, 1) := by decide +kernel
theorem dX11_cut_97 : decode cX11_cut 97 = .ok (.invokestatic 313, 3) := by decide +kernel
theorem dX11_cut_100 : decode cX11_cut 100 = .ok (.if_icmp .ge 66, 3) := by decide +kernel
theorem dX11_cut_103 : decode cX11_cut 103 = .ok (.iconst 0, 1) := by decide +kernel
theorem dX11_cut_104 : decode cX11_cut 104 = .ok (.istore 5, 2) := by decide +kernel
theorem dX11_cut_106 : decode cX11_cut 106 = .ok (.iload 5, 2) := by decide +kernel
theorem dX11_cut_108 : decode cX11_cut 108 = .ok (.bipush 12, 2) := by decide +kernel
theorem dX11_cut_110 : decode cX11_cut 110 = .ok (.if_icmp .ge 41, 3) := by decide +kernel
theorem dX11_cut_113 : decode cX11_cut 113 = .ok (.aload_n 0, 1) := by decide +kernel
theorem dX11_cut_114 : decode cX11_cut 114 = .ok (.getfield 37, 3) := by decide +kernel
theorem dX11_cut_117 : decode cX11_cut 117 = .ok (.iload 5, 2) := by decide +kernel
theorem dX11_cut_119 : decode cX11_cut 119 = .ok (.aload_n 0, 1) := by decide +kernel
theorem dX11_cut_120 : decode cX11_cut 120 = .ok (.getfield 97, 3) := by decide +kernel
theorem dX11_cut_123 : decode cX11_cut 123 = .ok (.iload 5, 2) := by decide +kernel
theorem dX11_cut_125 : decode cX11_cut 125 = .ok (.baload, 1) := by decide +kernel
theorem dX11_cut_126 : decode cX11_cut 126 = .ok (.ifCond .ne 13, 3) := by decide +kernel
theorem dX11_cut_129 : decode cX11_cut 129 = .ok (.iload 4, 2) := by decide +kernel
theorem dX11_cut_131 : decode cX11_cut 131 = .ok (.iload 5, 2) := by decide +kernel
theorem dX11_cut_133 : decode cX11_cut 133 = .ok (.invokestatic 326, 3) := by decide +kernel
theorem dX11_cut_136 : decode cX11_cut 136 = .ok (.ifCond .eq 7, 3) := by decide +kernel
theorem dX11_cut_139 : decode cX11_cut 139 = .ok (.iconst 1, 1) := by decide +kernel
theorem dX11_cut_140 : decode cX11_cut 140 = .ok (.goto 4, 3) := by decide +kernel
theorem dX11_cut_143 : decode cX11_cut 143 = .ok (.iconst 0, 1) := by decide +kernel
theorem dX11_cut_144 : decode cX11_cut 144 = .ok (.bastore, 1) := by decide +kernel
theorem dX11_cut_145 : decode cX11_cut 145 = .ok (.iinc 5 1, 3) := by decide +kernel
theorem dX11_cut_148 : decode cX11_cut 148 = .ok (.goto (-42), 3) := by decide +kernel
theorem dX11_cut_151 : decode cX11_cut 151 = .ok (.aload_n 0, 1) := by decide +kernel
theorem dX11_cut_152 : decode cX11_cut 152 = .ok (.iload_n 1, 1) := by decide +kernel
theorem dX11_cut_153 : decode cX11_cut 153 = .ok (.invokevirtual 356, 3) := by decide +kernel
theorem dX11_cut_156 : decode cX11_cut 156 = .ok (.ifCond .ge 8, 3) := by decide +kernel
theorem dX11_cut_159 : decode cX11_cut 159 = .ok (.iload 4, 2) := by decide +kernel
theorem dX11_cut_161 : decode cX11_cut 161 = .ok (.goto 4, 3) := by decide +kernel
theorem dX11_cut_164 : decode cX11_cut 164 = .ok (.iload_n 3, 1) := by decide +kernel
theorem dX11_cut_165 : decode cX11_cut 165 = .ok (.istore_n 3, 1) := by decide +kernel
theorem dX11_cut_166 : decode cX11_cut 166 = .ok (.iinc 4 1, 3) := by decide +kernel
theorem dX11_cut_169 : decode cX11_cut 169 = .ok (.goto (-99), 3) := by decide +kernel
theorem dX11_cut_172 : decode cX11_cut 172 = .ok (.iconst 0, 1) := by decide +kernel
theorem dX11_cut_173 : decode cX11_cut 173 = .ok (.istore 4, 2) := by decide +kernel
theorem dX11_cut_175 : decode cX11_cut 175 = .ok (.iload 4, 2) := by decide +kernel
theorem dX11_cut_177 : decode cX11_cut 177 = .ok (.bipush 12, 2) := by decide +kernel
theorem dX11_cut_179 : decode cX11_cut 179 = .ok (.if_icmp .ge 23, 3) := by decide +kernel
theorem dX11_cut_182 : decode cX11_cut 182 = .ok (.aload_n 0, 1) := by decide +kernel
theorem dX11_cut_183 : decode cX11_cut 183 = .ok (.getfield 37, 3) := by decide +kernel
theorem dX11_cut_186 : decode cX11_cut 186 = .ok (.iload 4, 2) := by decide +kernel
theorem dX11_cut_188 : decode cX11_cut 188 = .ok (.aload_n 0, 1) := by decide +kernel
theorem dX11_cut_189 : decode cX11_cut 189 = .ok (.getfield 97, 3) := by decide +kernel
theorem dX11_cut_192 : decode cX11_cut 192 = .ok (.iload 4, 2) := by decide +kernel
theorem dX11_cut_194 : decode cX11_cut 194 = .ok (.baload, 1) := by decide +kernel
theorem dX11_cut_195 : decode cX11_cut 195 = .ok (.bastore, 1) := by decide +kernel
theorem dX11_cut_196 : decode cX11_cut 196 = .ok (.iinc 4 1, 3) := by decide +kernel
theorem dX11_cut_199 : decode cX11_cut 199 = .ok (.goto (-24), 3) := by decide +kernel
theorem dX11_cut_202 : decode cX11_cut 202 = .ok (.iload_n 3, 1) := by decide +kernel
theorem dX11_cut_203 : decode cX11_cut 203 = .ok (.ireturn, 1) := by decide +kernel
theorem dX11_wantOf_0 : decode cX11_wantOf 0 = .ok (.iload 4, 2) := by decide +kernel
theorem dX11_wantOf_2 : decode cX11_wantOf 2 = .ok (.iload_n 2, 1) := by decide +kernel
theorem dX11_wantOf_3 : decode cX11_wantOf 3 = .ok (.invokestatic 313, 3) := by decide +kernel
theorem dX11_wantOf_6 : decode cX11_wantOf 6 = .ok (.isub, 1) := by decide +kernel
theorem dX11_wantOf_7 : decode cX11_wantOf 7 = .ok (.iconst 2, 1) := by decide +kernel
theorem dX11_wantOf_8 : decode cX11_wantOf 8 = .ok (.idiv, 1) := by decide +kernel
theorem dX11_wantOf_9 : decode cX11_wantOf 9 = .ok (.istore 5, 2) := by decide +kernel
theorem dX11_wantOf_11 : decode cX11_wantOf 11 = .ok (.aload_n 0, 1) := by decide +kernel
theorem dX11_wantOf_12 : decode cX11_wantOf 12 = .ok (.aload_n 0, 1) := by decide +kernel
theorem dX11_wantOf_13 : decode cX11_wantOf 13 = .ok (.getfield 84, 3) := by decide +kernel
theorem dX11_wantOf_16 : decode cX11_wantOf 16 = .ok (.iload_n 3, 1) := by decide +kernel
theorem dX11_wantOf_17 : decode cX11_wantOf 17 = .ok (.iaload, 1) := by decide +kernel
theorem dX11_wantOf_18 : decode cX11_wantOf 18 = .ok (.aload_n 0, 1) := by decide +kernel
theorem dX11_wantOf_19 : decode cX11_wantOf 19 = .ok (.getfield 223, 3) := by decide +kernel
theorem dX11_wantOf_22 : decode cX11_wantOf 22 = .ok (.invokevirtual 260, 3) := by decide +kernel
theorem dX11_wantOf_25 : decode cX11_wantOf 25 = .ok (.i2l, 1) := by decide +kernel
theorem dX11_wantOf_26 : decode cX11_wantOf 26 = .ok (.iload 5, 2) := by decide +kernel
theorem dX11_wantOf_28 : decode cX11_wantOf 28 = .ok (.lshl, 1) := by decide +kernel
theorem dX11_wantOf_29 : decode cX11_wantOf 29 = .ok (.lstore 6, 2) := by decide +kernel
theorem dX11_wantOf_31 : decode cX11_wantOf 31 = .ok (.ldc2_w 354, 3) := by decide +kernel
theorem dX11_wantOf_34 : decode cX11_wantOf 34 = .ok (.aload_n 0, 1) := by decide +kernel
theorem dX11_wantOf_35 : decode cX11_wantOf 35 = .ok (.getfield 7, 3) := by decide +kernel
theorem dX11_wantOf_38 : decode cX11_wantOf 38 = .ok (.iload_n 1, 1) := by decide +kernel
theorem dX11_wantOf_39 : decode cX11_wantOf 39 = .ok (.iaload, 1) := by decide +kernel
theorem dX11_wantOf_40 : decode cX11_wantOf 40 = .ok (.i2l, 1) := by decide +kernel
theorem dX11_wantOf_41 : decode cX11_wantOf 41 = .ok (.lmul, 1) := by decide +kernel
theorem dX11_wantOf_42 : decode cX11_wantOf 42 = .ok (.iload 5, 2) := by decide +kernel
theorem dX11_wantOf_44 : decode cX11_wantOf 44 = .ok (.lshl, 1) := by decide +kernel
theorem dX11_wantOf_45 : decode cX11_wantOf 45 = .ok (.aload_n 0, 1) := by decide +kernel
theorem dX11_wantOf_46 : decode cX11_wantOf 46 = .ok (.getfield 47, 3) := by decide +kernel
theorem dX11_wantOf_49 : decode cX11_wantOf 49 = .ok (.iload_n 1, 1) := by decide +kernel
theorem dX11_wantOf_50 : decode cX11_wantOf 50 = .ok (.iaload, 1) := by decide +kernel
theorem dX11_wantOf_51 : decode cX11_wantOf 51 = .ok (.i2l, 1) := by decide +kernel
theorem dX11_wantOf_52 : decode cX11_wantOf 52 = .ok (.lsub, 1) := by decide +kernel
theorem dX11_wantOf_53 : decode cX11_wantOf 53 = .ok (.lstore 8, 2) := by decide +kernel
theorem dX11_wantOf_55 : decode cX11_wantOf 55 = .ok (.iload_n 2, 1) := by decide +kernel
theorem dX11_wantOf_56 : decode cX11_wantOf 56 = .ok (.iconst 1, 1) := by decide +kernel
theorem dX11_wantOf_57 : decode cX11_wantOf 57 = .ok (.iload_n 3, 1) := by decide +kernel
theorem dX11_wantOf_58 : decode cX11_wantOf 58 = .ok (.ishl, 1) := by decide +kernel
theorem dX11_wantOf_59 : decode cX11_wantOf 59 = .ok (.iconst (-1), 1) := by decide +kernel
theorem dX11_wantOf_60 : decode cX11_wantOf 60 = .ok (.ixor, 1) := by decide +kernel
theorem dX11_wantOf_61 : decode cX11_wantOf 61 = .ok (.iand, 1) := by decide +kernel
theorem dX11_wantOf_62 : decode cX11_wantOf 62 = .ok (.istore 10, 2) := by decide +kernel
theorem dX11_wantOf_64 : decode cX11_wantOf 64 = .ok (.iload 10, 2) := by decide +kernel
theorem dX11_wantOf_66 : decode cX11_wantOf 66 = .ok (.ifCond .ne 9, 3) := by decide +kernel
theorem dX11_wantOf_69 : decode cX11_wantOf 69 = .ok (.ldc2_w 366, 3) := by decide +kernel
theorem dX11_wantOf_72 : decode cX11_wantOf 72 = .ok (.goto 6, 3) := by decide +kernel
theorem dX11_wantOf_75 : decode cX11_wantOf 75 = .ok (.ldc2_w 368, 3) := by decide +kernel
theorem dX11_wantOf_78 : decode cX11_wantOf 78 = .ok (.lstore 11, 2) := by decide +kernel
theorem dX11_wantOf_80 : decode cX11_wantOf 80 = .ok (.iconst 0, 1) := by decide +kernel
theorem dX11_wantOf_81 : decode cX11_wantOf 81 = .ok (.istore 13, 2) := by decide +kernel
theorem dX11_wantOf_83 : decode cX11_wantOf 83 = .ok (.iload 13, 2) := by decide +kernel
theorem dX11_wantOf_85 : decode cX11_wantOf 85 = .ok (.aload_n 0, 1) := by decide +kernel
theorem dX11_wantOf_86 : decode cX11_wantOf 86 = .ok (.getfield 303, 3) := by decide +kernel
theorem dX11_wantOf_89 : decode cX11_wantOf 89 = .ok (.if_icmp .ge 57, 3) := by decide +kernel
theorem dX11_wantOf_92 : decode cX11_wantOf 92 = .ok (.iload 10, 2) := by decide +kernel
theorem dX11_wantOf_94 : decode cX11_wantOf 94 = .ok (.iload 13, 2) := by decide +kernel
theorem dX11_wantOf_96 : decode cX11_wantOf 96 = .ok (.invokestatic 326, 3) := by decide +kernel
theorem dX11_wantOf_99 : decode cX11_wantOf 99 = .ok (.ifCond .eq 20, 3) := by decide +kernel
theorem dX11_wantOf_102 : decode cX11_wantOf 102 = .ok (.aload_n 0, 1) := by decide +kernel
theorem dX11_wantOf_103 : decode cX11_wantOf 103 = .ok (.getfield 100, 3) := by decide +kernel
theorem dX11_wantOf_106 : decode cX11_wantOf 106 = .ok (.iload 10, 2) := by decide +kernel
theorem dX11_wantOf_108 : decode cX11_wantOf 108 = .ok (.iconst 1, 1) := by decide +kernel
theorem dX11_wantOf_109 : decode cX11_wantOf 109 = .ok (.iload 13, 2) := by decide +kernel
theorem dX11_wantOf_111 : decode cX11_wantOf 111 = .ok (.ishl, 1) := by decide +kernel
theorem dX11_wantOf_112 : decode cX11_wantOf 112 = .ok (.iconst (-1), 1) := by decide +kernel
theorem dX11_wantOf_113 : decode cX11_wantOf 113 = .ok (.ixor, 1) := by decide +kernel
theorem dX11_wantOf_114 : decode cX11_wantOf 114 = .ok (.iand, 1) := by decide +kernel
theorem dX11_wantOf_115 : decode cX11_wantOf 115 = .ok (.laload, 1) := by decide +kernel
theorem dX11_wantOf_116 : decode cX11_wantOf 116 = .ok (.goto 5, 3) := by decide +kernel
theorem dX11_wantOf_119 : decode cX11_wantOf 119 = .ok (.lload 11, 2) := by decide +kernel
theorem dX11_wantOf_121 : decode cX11_wantOf 121 = .ok (.lstore 14, 2) := by decide +kernel
theorem dX11_wantOf_123 : decode cX11_wantOf 123 = .ok (.lload 14, 2) := by decide +kernel
theorem dX11_wantOf_125 : decode cX11_wantOf 125 = .ok (.lload 11, 2) := by decide +kernel
theorem dX11_wantOf_127 : decode cX11_wantOf 127 = .ok (.lcmp, 1) := by decide +kernel
theorem dX11_wantOf_128 : decode cX11_wantOf 128 = .ok (.ifCond .le 8, 3) := by decide +kernel
theorem dX11_wantOf_131 : decode cX11_wantOf 131 = .ok (.lload 14, 2) := by decide +kernel
theorem dX11_wantOf_133 : decode cX11_wantOf 133 = .ok (.goto 5, 3) := by decide +kernel
theorem dX11_wantOf_136 : decode cX11_wantOf 136 = .ok (.lload 11, 2) := by decide +kernel
theorem dX11_wantOf_138 : decode cX11_wantOf 138 = .ok (.lstore 11, 2) := by decide +kernel
theorem dX11_wantOf_140 : decode cX11_wantOf 140 = .ok (.iinc 13 1, 3) := by decide +kernel
theorem dX11_wantOf_143 : decode cX11_wantOf 143 = .ok (.goto (-60), 3) := by decide +kernel
theorem dX11_wantOf_146 : decode cX11_wantOf 146 = .ok (.lload 8, 2) := by decide +kernel
theorem dX11_wantOf_148 : decode cX11_wantOf 148 = .ok (.lload 11, 2) := by decide +kernel
theorem dX11_wantOf_150 : decode cX11_wantOf 150 = .ok (.lcmp, 1) := by decide +kernel
theorem dX11_wantOf_151 : decode cX11_wantOf 151 = .ok (.ifCond .ge 8, 3) := by decide +kernel
theorem dX11_wantOf_154 : decode cX11_wantOf 154 = .ok (.lload 8, 2) := by decide +kernel
theorem dX11_wantOf_156 : decode cX11_wantOf 156 = .ok (.goto 5, 3) := by decide +kernel
theorem dX11_wantOf_159 : decode cX11_wantOf 159 = .ok (.lload 11, 2) := by decide +kernel
theorem dX11_wantOf_161 : decode cX11_wantOf 161 = .ok (.lload 6, 2) := by decide +kernel
theorem dX11_wantOf_163 : decode cX11_wantOf 163 = .ok (.lsub, 1) := by decide +kernel
theorem dX11_wantOf_164 : decode cX11_wantOf 164 = .ok (.lreturn, 1) := by decide +kernel
theorem dX11_turns_0 : decode cX11_turns 0 = .ok (.aload_n 0, 1) := by decide +kernel
theorem dX11_turns_1 : decode cX11_turns 1 = .ok (.iload_n 1, 1) := by decide +kernel
theorem dX11_turns_2 : decode cX11_turns 2 = .ok (.invokevirtual 244, 3) := by decide +kernel
theorem dX11_turns_5 : decode cX11_turns 5 = .ok (.ifCond .ne 6, 3) := by decide +kernel
theorem dX11_turns_8 : decode cX11_turns 8 = .ok (.ldc 248, 2) := by decide +kernel
theorem dX11_turns_10 : decode cX11_turns 10 = .ok (.ireturn, 1) := by decide +kernel
theorem dX11_turns_11 : decode cX11_turns 11 = .ok (.iload_n 2, 1) := by decide +kernel
theorem dX11_turns_12 : decode cX11_turns 12 = .ok (.i2l, 1) := by decide +kernel
theorem dX11_turns_13 : decode cX11_turns 13 = .ok (.lconst 0, 1) := by decide +kernel
theorem dX11_turns_14 : decode cX11_turns 14 = .ok (.lconst 1, 1) := by decide +kernel
theorem dX11_turns_15 : decode cX11_turns 15 = .ok (.invokestatic 127, 3) := by decide +kernel
theorem dX11_turns_18 : decode cX11_turns 18 = .ok (.ifCond .ne 6, 3) := by decide +kernel
theorem dX11_turns_21 : decode cX11_turns 21 = .ok (.ldc 136, 2) := by decide +kernel
theorem dX11_turns_23 : decode cX11_turns 23 = .ok (.ireturn, 1) := by decide +kernel
theorem dX11_turns_24 : decode cX11_turns 24 = .ok (.aload_n 0, 1) := by decide +kernel
theorem dX11_turns_25 : decode cX11_turns 25 = .ok (.getfield 41, 3) := by decide +kernel
theorem dX11_turns_28 : decode cX11_turns 28 = .ok (.iload_n 1, 1) := by decide +kernel
theorem dX11_turns_29 : decode cX11_turns 29 = .ok (.iaload, 1) := by decide +kernel
theorem dX11_turns_30 : decode cX11_turns 30 = .ok (.ifCond .eq 6, 3) := by decide +kernel
theorem dX11_turns_33 : decode cX11_turns 33 = .ok (.ldc 232, 2) := by decide +kernel
theorem dX11_turns_35 : decode cX11_turns 35 = .ok (.ireturn, 1) := by decide +kernel
theorem dX11_turns_36 : decode cX11_turns 36 = .ok (.aload_n 0, 1) := by decide +kernel
theorem dX11_turns_37 : decode cX11_turns 37 = .ok (.iload_n 1, 1) := by decide +kernel
theorem dX11_turns_38 : decode cX11_turns 38 = .ok (.invokevirtual 332, 3) := by decide +kernel
theorem dX11_turns_41 : decode cX11_turns 41 = .ok (.iconst 0, 1) := by decide +kernel
theorem dX11_turns_42 : decode cX11_turns 42 = .ok (.istore_n 3, 1) := by decide +kernel
theorem dX11_turns_43 : decode cX11_turns 43 = .ok (.iconst 0, 1) := by decide +kernel
theorem dX11_turns_44 : decode cX11_turns 44 = .ok (.istore 4, 2) := by decide +kernel
theorem dX11_turns_46 : decode cX11_turns 46 = .ok (.iload 4, 2) := by decide +kernel
theorem dX11_turns_48 : decode cX11_turns 48 = .ok (.aload_n 0, 1) := by decide +kernel
theorem dX11_turns_49 : decode cX11_turns 49 = .ok (.getfield 303, 3) := by decide +kernel
theorem dX11_turns_52 : decode cX11_turns 52 = .ok (.if_icmp .ge 38, 3) := by decide +kernel
theorem dX11_turns_55 : decode cX11_turns 55 = .ok (.iload_n 3, 1) := by decide +kernel
theorem dX11_turns_56 : decode cX11_turns 56 = .ok (.aload_n 0, 1) := by decide +kernel
theorem dX11_turns_57 : decode cX11_turns 57 = .ok (.aload_n 0, 1) := by decide +kernel
theorem dX11_turns_58 : decode cX11_turns 58 = .ok (.getfield 84, 3) := by decide +kernel
theorem dX11_turns_61 : decode cX11_turns 61 = .ok (.iload 4, 2) := by decide +kernel
theorem dX11_turns_63 : decode cX11_turns 63 = .ok (.iaload, 1) := by decide +kernel
theorem dX11_turns_64 : decode cX11_turns 64 = .ok (.aload_n 0, 1) := by decide +kernel
theorem dX11_turns_65 : decode cX11_turns 65 = .ok (.getfield 223, 3) := by decide +kernel
theorem dX11_turns_68 : decode cX11_turns 68 = .ok (.invokevirtual 253, 3) := by decide +kernel
theorem dX11_turns_71 : decode cX11_turns 71 = .ok (.ifCond .eq 10, 3) := by decide +kernel
theorem dX11_turns_74 : decode cX11_turns 74 = .ok (.iconst 1, 1) := by decide +kernel
theorem dX11_turns_75 : decode cX11_turns 75 = .ok (.iload 4, 2) := by decide +kernel
theorem dX11_turns_77 : decode cX11_turns 77 = .ok (.ishl, 1) := by decide +kernel
theorem dX11_turns_78 : decode cX11_turns 78 = .ok (.goto 4, 3) := by decide +kernel
theorem dX11_turns_81 : decode cX11_turns 81 = .ok (.iconst 0, 1) := by decide +kernel
theorem dX11_turns_82 : decode cX11_turns 82 = .ok (.ior, 1) := by decide +kernel
theorem dX11_turns_83 : decode cX11_turns 83 = .ok (.istore_n 3, 1) := by decide +kernel
theorem dX11_turns_84 : decode cX11_turns 84 = .ok (.iinc 4 1, 3) := by decide +kernel
theorem dX11_turns_87 : decode cX11_turns 87 = .ok (.goto (-41), 3) := by decide +kernel
theorem dX11_turns_90 : decode cX11_turns 90 = .ok (.iconst 0, 1) := by decide +kernel
theorem dX11_turns_91 : decode cX11_turns 91 = .ok (.istore 4, 2) := by decide +kernel
theorem dX11_turns_93 : decode cX11_turns 93 = .ok (.iload 4, 2) := by decide +kernel
theorem dX11_turns_95 : decode cX11_turns 95 = .ok (.bipush 64, 2) := by decide +kernel
theorem dX11_turns_97 : decode cX11_turns 97 = .ok (.if_icmp .ge 140, 3) := by decide +kernel
theorem dX11_turns_100 : decode cX11_turns 100 = .ok (.aload_n 0, 1) := by decide +kernel
theorem dX11_turns_101 : decode cX11_turns 101 = .ok (.getfield 100, 3) := by decide +kernel
theorem dX11_turns_104 : decode cX11_turns 104 = .ok (.iload 4, 2) := by decide +kernel
theorem dX11_turns_106 : decode cX11_turns 106 = .ok (.ldc2_w 366, 3) := by decide +kernel
theorem dX11_turns_109 : decode cX11_turns 109 = .ok (.lastore, 1) := by decide +kernel
theorem dX11_turns_110 : decode cX11_turns 110 = .ok (.iconst 0, 1) := by decide +kernel
theorem dX11_turns_111 : decode cX11_turns 111 = .ok (.istore 5, 2) := by decide +kernel
theorem dX11_turns_113 : decode cX11_turns 113 = .ok (.iload 5, 2) := by decide +kernel
theorem dX11_turns_115 : decode cX11_turns 115 = .ok (.aload_n 0, 1) := by decide +kernel
theorem dX11_turns_116 : decode cX11_turns 116 = .ok (.getfield 303, 3) := by decide +kernel
theorem dX11_turns_119 : decode cX11_turns 119 = .ok (.if_icmp .ge 112, 3) := by decide +kernel
theorem dX11_turns_122 : decode cX11_turns 122 = .ok (.iload 4, 2) := by decide +kernel
theorem dX11_turns_124 : decode cX11_turns 124 = .ok (.iload_n 3, 1) := by decide +kernel
theorem dX11_turns_125 : decode cX11_turns 125 = .ok (.iconst (-1), 1) := by decide +kernel
theorem dX11_turns_126 : decode cX11_turns 126 = .ok (.ixor, 1) := by decide +kernel
theorem dX11_turns_127 : decode cX11_turns 127 = .ok (.iand, 1) := by decide +kernel
theorem dX11_turns_128 : decode cX11_turns 128 = .ok (.ifCond .ne 32, 3) := by decide +kernel
theorem dX11_turns_131 : decode cX11_turns 131 = .ok (.iload 4, 2) := by decide +kernel
theorem dX11_turns_133 : decode cX11_turns 133 = .ok (.iload 5, 2) := by decide +kernel
theorem dX11_turns_135 : decode cX11_turns 135 = .ok (.invokestatic 326, 3) := by decide +kernel
theorem dX11_turns_138 : decode cX11_turns 138 = .ok (.ifCond .eq 22, 3) := by decide +kernel
theorem dX11_turns_141 : decode cX11_turns 141 = .ok (.iload_n 3, 1) := by decide +kernel
theorem dX11_turns_142 : decode cX11_turns 142 = .ok (.invokestatic 313, 3) := by decide +kernel
theorem dX11_turns_145 : decode cX11_turns 145 = .ok (.iload 4, 2) := by decide +kernel
theorem dX11_turns_147 : decode cX11_turns 147 = .ok (.invokestatic 313, 3) := by decide +kernel
theorem dX11_turns_150 : decode cX11_turns 150 = .ok (.isub, 1) := by decide +kernel
theorem dX11_turns_151 : decode cX11_turns 151 = .ok (.iconst 2, 1) := by decide +kernel
theorem dX11_turns_152 : decode cX11_turns 152 = .ok (.irem, 1) := by decide +kernel
theorem dX11_turns_153 : decode cX11_turns 153 = .ok (.ifCond .ne 7, 3) := by decide +kernel
theorem dX11_turns_156 : decode cX11_turns 156 = .ok (.iconst 1, 1) := by decide +kernel
theorem dX11_turns_157 : decode cX11_turns 157 = .ok (.goto 4, 3) := by decide +kernel
theorem dX11_turns_160 : decode cX11_turns 160 = .ok (.iconst 0, 1) := by decide +kernel
theorem dX11_turns_161 : decode cX11_turns 161 = .ok (.istore 6, 2) := by decide +kernel
theorem dX11_turns_163 : decode cX11_turns 163 = .ok (.iload 6, 2) := by decide +kernel
theorem dX11_turns_165 : decode cX11_turns 165 = .ok (.ifCond .eq 19, 3) := by decide +kernel
theorem dX11_turns_168 : decode cX11_turns 168 = .ok (.aload_n 0, 1) := by decide +kernel
theorem dX11_turns_169 : decode cX11_turns 169 = .ok (.iload_n 1, 1) := by decide +kernel
theorem dX11_turns_170 : decode cX11_turns 170 = .ok (.iload 4, 2) := by decide +kernel
theorem dX11_turns_172 : decode cX11_turns 172 = .ok (.iload 5, 2) := by decide +kernel
theorem dX11_turns_174 : decode cX11_turns 174 = .ok (.iload_n 3, 1) := by decide +kernel
theorem dX11_turns_175 : decode cX11_turns 175 = .ok (.invokestatic 313, 3) := by decide +kernel
theorem dX11_turns_178 : decode cX11_turns 178 = .ok (.invokevirtual 370, 3) := by decide +kernel
theorem dX11_turns_181 : decode cX11_turns 181 = .ok (.goto 10, 3) := by decide +kernel
theorem dX11_turns_184 : decode cX11_turns 184 = .ok (.aload_n 0, 1) := by decide +kernel
theorem dX11_turns_185 : decode cX11_turns 185 = .ok (.getfield 100, 3) := by decide +kernel
theorem dX11_turns_188 : decode cX11_turns 188 = .ok (.iload 4, 2) := by decide +kernel
theorem dX11_turns_190 : decode cX11_turns 190 = .ok (.laload, 1) := by decide +kernel
theorem dX11_turns_191 : decode cX11_turns 191 = .ok (.lstore 7, 2) := by decide +kernel
theorem dX11_turns_193 : decode cX11_turns 193 = .ok (.aload_n 0, 1) := by decide +kernel
theorem dX11_turns_194 : decode cX11_turns 194 = .ok (.getfield 100, 3) := by decide +kernel
theorem dX11_turns_197 : decode cX11_turns 197 = .ok (.iload 4, 2) := by decide +kernel
theorem dX11_turns_199 : decode cX11_turns 199 = .ok (.lload 7, 2) := by decide +kernel
theorem dX11_turns_201 : decode cX11_turns 201 = .ok (.aload_n 0, 1) := by decide +kernel
theorem dX11_turns_202 : decode cX11_turns 202 = .ok (.getfield 100, 3) := by decide +kernel
theorem dX11_turns_205 : decode cX11_turns 205 = .ok (.iload 4, 2) := by decide +kernel
theorem dX11_turns_207 : decode cX11_turns 207 = .ok (.laload, 1) := by decide +kernel
theorem dX11_turns_208 : decode cX11_turns 208 = .ok (.lcmp, 1) := by decide +kernel
theorem dX11_turns_209 : decode cX11_turns 209 = .ok (.ifCond .ge 8, 3) := by decide +kernel
theorem dX11_turns_212 : decode cX11_turns 212 = .ok (.lload 7, 2) := by decide +kernel
theorem dX11_turns_214 : decode cX11_turns 214 = .ok (.goto 10, 3) := by decide +kernel
theorem dX11_turns_217 : decode cX11_turns 217 = .ok (.aload_n 0, 1) := by decide +kernel
theorem dX11_turns_218 : decode cX11_turns 218 = .ok (.getfield 100, 3) := by decide +kernel
theorem dX11_turns_221 : decode cX11_turns 221 = .ok (.iload 4, 2) := by decide +kernel
theorem dX11_turns_223 : decode cX11_turns 223 = .ok (.laload, 1) := by decide +kernel
theorem dX11_turns_224 : decode cX11_turns 224 = .ok (.lastore, 1) := by decide +kernel
theorem dX11_turns_225 : decode cX11_turns 225 = .ok (.iinc 5 1, 3) := by decide +kernel
theorem dX11_turns_228 : decode cX11_turns 228 = .ok (.goto (-115), 3) := by decide +kernel
theorem dX11_turns_231 : decode cX11_turns 231 = .ok (.iinc 4 1, 3) := by decide +kernel
theorem dX11_turns_234 : decode cX11_turns 234 = .ok (.goto (-141), 3) := by decide +kernel
theorem dX11_turns_237 : decode cX11_turns 237 = .ok (.aload_n 0, 1) := by decide +kernel
theorem dX11_turns_238 : decode cX11_turns 238 = .ok (.iload_n 1, 1) := by decide +kernel
theorem dX11_turns_239 : decode cX11_turns 239 = .ok (.invokevirtual 268, 3) := by decide +kernel
theorem dX11_turns_242 : decode cX11_turns 242 = .ok (.istore 4, 2) := by decide +kernel
theorem dX11_turns_244 : decode cX11_turns 244 = .ok (.iload_n 2, 1) := by decide +kernel
theorem dX11_turns_245 : decode cX11_turns 245 = .ok (.ifCond .ne 25, 3) := by decide +kernel
theorem dX11_turns_248 : decode cX11_turns 248 = .ok (.iload 4, 2) := by decide +kernel
theorem dX11_turns_250 : decode cX11_turns 250 = .ok (.ifCond .ne 14, 3) := by decide +kernel
theorem dX11_turns_253 : decode cX11_turns 253 = .ok (.aload_n 0, 1) := by decide +kernel
theorem dX11_turns_254 : decode cX11_turns 254 = .ok (.getfield 100, 3) := by decide +kernel
theorem dX11_turns_257 : decode cX11_turns 257 = .ok (.iload_n 3, 1) := by decide +kernel
theorem dX11_turns_258 : decode cX11_turns 258 = .ok (.laload, 1) := by decide +kernel
theorem dX11_turns_259 : decode cX11_turns 259 = .ok (.lconst 0, 1) := by decide +kernel
theorem dX11_turns_260 : decode cX11_turns 260 = .ok (.lcmp, 1) := by decide +kernel
theorem dX11_turns_261 : decode cX11_turns 261 = .ok (.ifCond .gt 7, 3) := by decide +kernel
theorem dX11_turns_264 : decode cX11_turns 264 = .ok (.iconst 1, 1) := by decide +kernel
theorem dX11_turns_265 : decode cX11_turns 265 = .ok (.goto 4, 3) := by decide +kernel
theorem dX11_turns_268 : decode cX11_turns 268 = .ok (.iconst 0, 1) := by decide +kernel
theorem dX11_turns_269 : decode cX11_turns 269 = .ok (.ireturn, 1) := by decide +kernel
theorem dX11_turns_270 : decode cX11_turns 270 = .ok (.iconst 0, 1) := by decide +kernel
theorem dX11_turns_271 : decode cX11_turns 271 = .ok (.istore 5, 2) := by decide +kernel
theorem dX11_turns_273 : decode cX11_turns 273 = .ok (.iload 5, 2) := by decide +kernel
theorem dX11_turns_275 : decode cX11_turns 275 = .ok (.aload_n 0, 1) := by decide +kernel
theorem dX11_turns_276 : decode cX11_turns 276 = .ok (.getfield 303, 3) := by decide +kernel
theorem dX11_turns_279 : decode cX11_turns 279 = .ok (.if_icmp .ge 48, 3) := by decide +kernel
theorem dX11_turns_282 : decode cX11_turns 282 = .ok (.iload_n 3, 1) := by decide +kernel
theorem dX11_turns_283 : decode cX11_turns 283 = .ok (.iload 5, 2) := by decide +kernel
theorem dX11_turns_285 : decode cX11_turns 285 = .ok (.invokestatic 326, 3) := by decide +kernel
theorem dX11_turns_288 : decode cX11_turns 288 = .ok (.ifCond .eq 33, 3) := by decide +kernel
theorem dX11_turns_291 : decode cX11_turns 291 = .ok (.iload 4, 2) := by decide +kernel
theorem dX11_turns_293 : decode cX11_turns 293 = .ok (.ifCond .ne 20, 3) := by decide +kernel
theorem dX11_turns_296 : decode cX11_turns 296 = .ok (.aload_n 0, 1) := by decide +kernel
theorem dX11_turns_297 : decode cX11_turns 297 = .ok (.iload_n 1, 1) := by decide +kernel
theorem dX11_turns_298 : decode cX11_turns 298 = .ok (.iload_n 3, 1) := by decide +kernel
theorem dX11_turns_299 : decode cX11_turns 299 = .ok (.iload 5, 2) := by decide +kernel
theorem dX11_turns_301 : decode cX11_turns 301 = .ok (.iload_n 3, 1) := by decide +kernel
theorem dX11_turns_302 : decode cX11_turns 302 = .ok (.invokestatic 313, 3) := by decide +kernel
theorem dX11_turns_305 : decode cX11_turns 305 = .ok (.invokevirtual 370, 3) := by decide +kernel
theorem dX11_turns_308 : decode cX11_turns 308 = .ok (.lconst 0, 1) := by decide +kernel
theorem dX11_turns_309 : decode cX11_turns 309 = .ok (.lcmp, 1) := by decide +kernel
theorem dX11_turns_310 : decode cX11_turns 310 = .ok (.ifCond .gt 11, 3) := by decide +kernel
theorem dX11_turns_313 : decode cX11_turns 313 = .ok (.aload_n 0, 1) := by decide +kernel
theorem dX11_turns_314 : decode cX11_turns 314 = .ok (.getfield 84, 3) := by decide +kernel
theorem dX11_turns_317 : decode cX11_turns 317 = .ok (.iload 5, 2) := by decide +kernel
theorem dX11_turns_319 : decode cX11_turns 319 = .ok (.iaload, 1) := by decide +kernel
theorem dX11_turns_320 : decode cX11_turns 320 = .ok (.ireturn, 1) := by decide +kernel
theorem dX11_turns_321 : decode cX11_turns 321 = .ok (.iinc 5 1, 3) := by decide +kernel
theorem dX11_turns_324 : decode cX11_turns 324 = .ok (.goto (-51), 3) := by decide +kernel
theorem dX11_turns_327 : decode cX11_turns 327 = .ok (.iconst (-1), 1) := by decide +kernel
theorem dX11_turns_328 : decode cX11_turns 328 = .ok (.ireturn, 1) := by decide +kernel
theorem dX11_nextOrder_0 : decode cX11_nextOrder 0 = .ok (.iload_n 1, 1) := by decide +kernel
theorem dX11_nextOrder_1 : decode cX11_nextOrder 1 = .ok (.iconst 2, 1) := by decide +kernel
theorem dX11_nextOrder_2 : decode cX11_nextOrder 2 = .ok (.isub, 1) := by decide +kernel
theorem dX11_nextOrder_3 : decode cX11_nextOrder 3 = .ok (.istore_n 2, 1) := by decide +kernel
theorem dX11_nextOrder_4 : decode cX11_nextOrder 4 = .ok (.iload_n 2, 1) := by decide +kernel
theorem dX11_nextOrder_5 : decode cX11_nextOrder 5 = .ok (.ifCond .lt 26, 3) := by decide +kernel
theorem dX11_nextOrder_8 : decode cX11_nextOrder 8 = .ok (.aload_n 0, 1) := by decide +kernel
theorem dX11_nextOrder_9 : decode cX11_nextOrder 9 = .ok (.getfield 103, 3) := by decide +kernel
theorem dX11_nextOrder_12 : decode cX11_nextOrder 12 = .ok (.iload_n 2, 1) := by decide +kernel
theorem dX11_nextOrder_13 : decode cX11_nextOrder 13 = .ok (.iaload, 1) := by decide +kernel
theorem dX11_nextOrder_14 : decode cX11_nextOrder 14 = .ok (.aload_n 0, 1) := by decide +kernel
theorem dX11_nextOrder_15 : decode cX11_nextOrder 15 = .ok (.getfield 103, 3) := by decide +kernel
theorem dX11_nextOrder_18 : decode cX11_nextOrder 18 = .ok (.iload_n 2, 1) := by decide +kernel
theorem dX11_nextOrder_19 : decode cX11_nextOrder 19 = .ok (.iconst 1, 1) := by decide +kernel
theorem dX11_nextOrder_20 : decode cX11_nextOrder 20 = .ok (.iadd, 1) := by decide +kernel
theorem dX11_nextOrder_21 : decode cX11_nextOrder 21 = .ok (.iaload, 1) := by decide +kernel
theorem dX11_nextOrder_22 : decode cX11_nextOrder 22 = .ok (.if_icmp .le 9, 3) := by decide +kernel
theorem dX11_nextOrder_25 : decode cX11_nextOrder 25 = .ok (.iinc 2 (-1), 3) := by decide +kernel
theorem dX11_nextOrder_28 : decode cX11_nextOrder 28 = .ok (.goto (-24), 3) := by decide +kernel
theorem dX11_nextOrder_31 : decode cX11_nextOrder 31 = .ok (.iload_n 2, 1) := by decide +kernel
theorem dX11_nextOrder_32 : decode cX11_nextOrder 32 = .ok (.ifCond .ge 5, 3) := by decide +kernel
theorem dX11_nextOrder_35 : decode cX11_nextOrder 35 = .ok (.iconst 0, 1) := by decide +kernel
theorem dX11_nextOrder_36 : decode cX11_nextOrder 36 = .ok (.ireturn, 1) := by decide +kernel
theorem dX11_nextOrder_37 : decode cX11_nextOrder 37 = .ok (.iload_n 1, 1) := by decide +kernel
theorem dX11_nextOrder_38 : decode cX11_nextOrder 38 = .ok (.iconst 1, 1) := by decide +kernel
theorem dX11_nextOrder_39 : decode cX11_nextOrder 39 = .ok (.isub, 1) := by decide +kernel
theorem dX11_nextOrder_40 : decode cX11_nextOrder 40 = .ok (.istore_n 3, 1) := by decide +kernel
theorem dX11_nextOrder_41 : decode cX11_nextOrder 41 = .ok (.aload_n 0, 1) := by decide +kernel
theorem dX11_nextOrder_42 : decode cX11_nextOrder 42 = .ok (.getfield 103, 3) := by decide +kernel
theorem dX11_nextOrder_45 : decode cX11_nextOrder 45 = .ok (.iload_n 3, 1) := by decide +kernel
theorem dX11_nextOrder_46 : decode cX11_nextOrder 46 = .ok (.iaload, 1) := by decide +kernel
theorem dX11_nextOrder_47 : decode cX11_nextOrder 47 = .ok (.aload_n 0, 1) := by decide +kernel
theorem dX11_nextOrder_48 : decode cX11_nextOrder 48 = .ok (.getfield 103, 3) := by decide +kernel
theorem dX11_nextOrder_51 : decode cX11_nextOrder 51 = .ok (.iload_n 2, 1) := by decide +kernel
theorem dX11_nextOrder_52 : decode cX11_nextOrder 52 = .ok (.iaload, 1) := by decide +kernel
theorem dX11_nextOrder_53 : decode cX11_nextOrder 53 = .ok (.if_icmp .ge 9, 3) := by decide +kernel
theorem dX11_nextOrder_56 : decode cX11_nextOrder 56 = .ok (.iinc 3 (-1), 3) := by decide +kernel
theorem dX11_nextOrder_59 : decode cX11_nextOrder 59 = .ok (.goto (-18), 3) := by decide +kernel
theorem dX11_nextOrder_62 : decode cX11_nextOrder 62 = .ok (.aload_n 0, 1) := by decide +kernel
theorem dX11_nextOrder_63 : decode cX11_nextOrder 63 = .ok (.iload_n 2, 1) := by decide +kernel
theorem dX11_nextOrder_64 : decode cX11_nextOrder 64 = .ok (.iload_n 3, 1) := by decide +kernel
theorem dX11_nextOrder_65 : decode cX11_nextOrder 65 = .ok (.invokevirtual 373, 3) := by decide +kernel
theorem dX11_nextOrder_68 : decode cX11_nextOrder 68 = .ok (.iload_n 2, 1) := by decide +kernel
theorem dX11_nextOrder_69 : decode cX11_nextOrder 69 = .ok (.iconst 1, 1) := by decide +kernel
theorem dX11_nextOrder_70 : decode cX11_nextOrder 70 = .ok (.iadd, 1) := by decide +kernel
theorem dX11_nextOrder_71 : decode cX11_nextOrder 71 = .ok (.istore 4, 2) := by decide +kernel
theorem dX11_nextOrder_73 : decode cX11_nextOrder 73 = .ok (.iload_n 1, 1) := by decide +kernel
theorem dX11_nextOrder_74 : decode cX11_nextOrder 74 = .ok (.iconst 1, 1) := by decide +kernel
theorem dX11_nextOrder_75 : decode cX11_nextOrder 75 = .ok (.isub, 1) := by decide +kernel
theorem dX11_nextOrder_76 : decode cX11_nextOrder 76 = .ok (.istore 5, 2) := by decide +kernel
theorem dX11_nextOrder_78 : decode cX11_nextOrder 78 = .ok (.iload 4, 2) := by decide +kernel
theorem dX11_nextOrder_80 : decode cX11_nextOrder 80 = .ok (.iload 5, 2) := by decide +kernel
theorem dX11_nextOrder_82 : decode cX11_nextOrder 82 = .ok (.if_icmp .ge 20, 3) := by decide +kernel
theorem dX11_nextOrder_85 : decode cX11_nextOrder 85 = .ok (.aload_n 0, 1) := by decide +kernel
theorem dX11_nextOrder_86 : decode cX11_nextOrder 86 = .ok (.iload 4, 2) := by decide +kernel
theorem dX11_nextOrder_88 : decode cX11_nextOrder 88 = .ok (.iload 5, 2) := by decide +kernel
theorem dX11_nextOrder_90 : decode cX11_nextOrder 90 = .ok (.invokevirtual 373, 3) := by decide +kernel
theorem dX11_nextOrder_93 : decode cX11_nextOrder 93 = .ok (.iinc 4 1, 3) := by decide +kernel
theorem dX11_nextOrder_96 : decode cX11_nextOrder 96 = .ok (.iinc 5 (-1), 3) := by decide +kernel
theorem dX11_nextOrder_99 : decode cX11_nextOrder 99 = .ok (.goto (-21), 3) := by decide +kernel
theorem dX11_nextOrder_102 : decode cX11_nextOrder 102 = .ok (.iconst 1, 1) := by decide +kernel
theorem dX11_nextOrder_103 : decode cX11_nextOrder 103 = .ok (.ireturn, 1) := by decide +kernel
theorem dX11_swap_0 : decode cX11_swap 0 = .ok (.aload_n 0, 1) := by decide +kernel
theorem dX11_swap_1 : decode cX11_swap 1 = .ok (.getfield 103, 3) := by decide +kernel
theorem dX11_swap_4 : decode cX11_swap 4 = .ok (.iload_n 1, 1) := by decide +kernel
theorem dX11_swap_5 : decode cX11_swap 5 = .ok (.iaload, 1) := by decide +kernel
theorem dX11_swap_6 : decode cX11_swap 6 = .ok (.istore_n 3, 1) := by decide +kernel
theorem dX11_swap_7 : decode cX11_swap 7 = .ok (.aload_n 0, 1) := by decide +kernel
theorem dX11_swap_8 : decode cX11_swap 8 = .ok (.getfield 103, 3) := by decide +kernel
theorem dX11_swap_11 : decode cX11_swap 11 = .ok (.iload_n 1, 1) := by decide +kernel
theorem dX11_swap_12 : decode cX11_swap 12 = .ok (.aload_n 0, 1) := by decide +kernel
theorem dX11_swap_13 : decode cX11_swap 13 = .ok (.getfield 103, 3) := by decide +kernel
theorem dX11_swap_16 : decode cX11_swap 16 = .ok (.iload_n 2, 1) := by decide +kernel
theorem dX11_swap_17 : decode cX11_swap 17 = .ok (.iaload, 1) := by decide +kernel
theorem dX11_swap_18 : decode cX11_swap 18 = .ok (.iastore, 1) := by decide +kernel
theorem dX11_swap_19 : decode cX11_swap 19 = .ok (.aload_n 0, 1) := by decide +kernel
theorem dX11_swap_20 : decode cX11_swap 20 = .ok (.getfield 103, 3) := by decide +kernel
theorem dX11_swap_23 : decode cX11_swap 23 = .ok (.iload_n 2, 1) := by decide +kernel
theorem dX11_swap_24 : decode cX11_swap 24 = .ok (.iload_n 3, 1) := by decide +kernel
theorem dX11_swap_25 : decode cX11_swap 25 = .ok (.iastore, 1) := by decide +kernel
theorem dX11_swap_26 : decode cX11_swap 26 = .ok (.return_, 1) := by decide +kernel
theorem dX11_enoughBy_0 : decode cX11_enoughBy 0 = .ok (.iconst 0, 1) := by decide +kernel
theorem dX11_enoughBy_1 : decode cX11_enoughBy 1 = .ok (.istore_n 2, 1) := by decide +kernel
theorem dX11_enoughBy_2 : decode cX11_enoughBy 2 = .ok (.aload_n 0, 1) := by decide +kernel
theorem dX11_enoughBy_3 : decode cX11_enoughBy 3 = .ok (.iconst 0, 1) := by decide +kernel
theorem dX11_enoughBy_4 : decode cX11_enoughBy 4 = .ok (.invokevirtual 310, 3) := by decide +kernel
theorem dX11_enoughBy_7 : decode cX11_enoughBy 7 = .ok (.istore_n 3, 1) := by decide +kernel
theorem dX11_enoughBy_8 : decode cX11_enoughBy 8 = .ok (.iconst 0, 1) := by decide +kernel
theorem dX11_enoughBy_9 : decode cX11_enoughBy 9 = .ok (.istore 4, 2) := by decide +kernel
theorem dX11_enoughBy_11 : decode cX11_enoughBy 11 = .ok (.iload 4, 2) := by decide +kernel
theorem dX11_enoughBy_13 : decode cX11_enoughBy 13 = .ok (.iload_n 1, 1) := by decide +kernel
theorem dX11_enoughBy_14 : decode cX11_enoughBy 14 = .ok (.if_icmp .ge 157, 3) := by decide +kernel
theorem dX11_enoughBy_17 : decode cX11_enoughBy 17 = .ok (.aload_n 0, 1) := by decide +kernel
theorem dX11_enoughBy_18 : decode cX11_enoughBy 18 = .ok (.getfield 103, 3) := by decide +kernel
theorem dX11_enoughBy_21 : decode cX11_enoughBy 21 = .ok (.iload 4, 2) := by decide +kernel
theorem dX11_enoughBy_23 : decode cX11_enoughBy 23 = .ok (.iaload, 1) := by decide +kernel
theorem dX11_enoughBy_24 : decode cX11_enoughBy 24 = .ok (.istore 5, 2) := by decide +kernel
theorem dX11_enoughBy_26 : decode cX11_enoughBy 26 = .ok (.aload_n 0, 1) := by decide +kernel
theorem dX11_enoughBy_27 : decode cX11_enoughBy 27 = .ok (.getfield 47, 3) := by decide +kernel
theorem dX11_enoughBy_30 : decode cX11_enoughBy 30 = .ok (.iload 5, 2) := by decide +kernel
theorem dX11_enoughBy_32 : decode cX11_enoughBy 32 = .ok (.iaload, 1) := by decide +kernel
theorem dX11_enoughBy_33 : decode cX11_enoughBy 33 = .ok (.istore 6, 2) := by decide +kernel
theorem dX11_enoughBy_35 : decode cX11_enoughBy 35 = .ok (.iconst 0, 1) := by decide +kernel
theorem dX11_enoughBy_36 : decode cX11_enoughBy 36 = .ok (.istore 7, 2) := by decide +kernel
theorem dX11_enoughBy_38 : decode cX11_enoughBy 38 = .ok (.iload 7, 2) := by decide +kernel
theorem dX11_enoughBy_40 : decode cX11_enoughBy 40 = .ok (.aload_n 0, 1) := by decide +kernel
theorem dX11_enoughBy_41 : decode cX11_enoughBy 41 = .ok (.getfield 131, 3) := by decide +kernel
theorem dX11_enoughBy_44 : decode cX11_enoughBy 44 = .ok (.if_icmp .ge 96, 3) := by decide +kernel
theorem dX11_enoughBy_47 : decode cX11_enoughBy 47 = .ok (.aload_n 0, 1) := by decide +kernel
theorem dX11_enoughBy_48 : decode cX11_enoughBy 48 = .ok (.getfield 19, 3) := by decide +kernel
theorem dX11_enoughBy_51 : decode cX11_enoughBy 51 = .ok (.iload 7, 2) := by decide +kernel
theorem dX11_enoughBy_53 : decode cX11_enoughBy 53 = .ok (.iaload, 1) := by decide +kernel
theorem dX11_enoughBy_54 : decode cX11_enoughBy 54 = .ok (.iload 5, 2) := by decide +kernel
theorem dX11_enoughBy_56 : decode cX11_enoughBy 56 = .ok (.if_icmp .ne 38, 3) := by decide +kernel
theorem dX11_enoughBy_59 : decode cX11_enoughBy 59 = .ok (.iload 6, 2) := by decide +kernel
theorem dX11_enoughBy_61 : decode cX11_enoughBy 61 = .ok (.iconst 3, 1) := by decide +kernel
theorem dX11_enoughBy_62 : decode cX11_enoughBy 62 = .ok (.aload_n 0, 1) := by decide +kernel
theorem dX11_enoughBy_63 : decode cX11_enoughBy 63 = .ok (.getfield 7, 3) := by decide +kernel
theorem dX11_enoughBy_66 : decode cX11_enoughBy 66 = .ok (.iload 5, 2) := by decide +kernel
theorem dX11_enoughBy_68 : decode cX11_enoughBy 68 = .ok (.iaload, 1) := by decide +kernel
theorem dX11_enoughBy_69 : decode cX11_enoughBy 69 = .ok (.imul, 1) := by decide +kernel
theorem dX11_enoughBy_70 : decode cX11_enoughBy 70 = .ok (.if_icmp .ge 24, 3) := by decide +kernel
theorem dX11_enoughBy_73 : decode cX11_enoughBy 73 = .ok (.iload_n 3, 1) := by decide +kernel
theorem dX11_enoughBy_74 : decode cX11_enoughBy 74 = .ok (.ifCond .le 20, 3) := by decide +kernel
theorem dX11_enoughBy_77 : decode cX11_enoughBy 77 = .ok (.aload_n 0, 1) := by decide +kernel
theorem dX11_enoughBy_78 : decode cX11_enoughBy 78 = .ok (.iload 7, 2) := by decide +kernel
theorem dX11_enoughBy_80 : decode cX11_enoughBy 80 = .ok (.aload_n 0, 1) := by decide +kernel
theorem dX11_enoughBy_81 : decode cX11_enoughBy 81 = .ok (.getfield 223, 3) := by decide +kernel
theorem dX11_enoughBy_84 : decode cX11_enoughBy 84 = .ok (.invokevirtual 253, 3) := by decide +kernel
theorem dX11_enoughBy_87 : decode cX11_enoughBy 87 = .ok (.ifCond .eq 7, 3) := by decide +kernel
theorem dX11_enoughBy_90 : decode cX11_enoughBy 90 = .ok (.iconst 1, 1) := by decide +kernel
theorem dX11_enoughBy_91 : decode cX11_enoughBy 91 = .ok (.goto 4, 3) := by decide +kernel
theorem dX11_enoughBy_94 : decode cX11_enoughBy 94 = .ok (.iconst 0, 1) := by decide +kernel
theorem dX11_enoughBy_95 : decode cX11_enoughBy 95 = .ok (.istore 8, 2) := by decide +kernel
theorem dX11_enoughBy_97 : decode cX11_enoughBy 97 = .ok (.iload 6, 2) := by decide +kernel
theorem dX11_enoughBy_99 : decode cX11_enoughBy 99 = .ok (.iload 8, 2) := by decide +kernel
theorem dX11_enoughBy_101 : decode cX11_enoughBy 101 = .ok (.ifCond .eq 16, 3) := by decide +kernel
theorem dX11_enoughBy_104 : decode cX11_enoughBy 104 = .ok (.aload_n 0, 1) := by decide +kernel
theorem dX11_enoughBy_105 : decode cX11_enoughBy 105 = .ok (.iload 7, 2) := by decide +kernel
theorem dX11_enoughBy_107 : decode cX11_enoughBy 107 = .ok (.aload_n 0, 1) := by decide +kernel
theorem dX11_enoughBy_108 : decode cX11_enoughBy 108 = .ok (.getfield 223, 3) := by decide +kernel
theorem dX11_enoughBy_111 : decode cX11_enoughBy 111 = .ok (.invokevirtual 260, 3) := by decide +kernel
theorem dX11_enoughBy_114 : decode cX11_enoughBy 114 = .ok (.goto 4, 3) := by decide +kernel
theorem dX11_enoughBy_117 : decode cX11_enoughBy 117 = .ok (.iconst 0, 1) := by decide +kernel
theorem dX11_enoughBy_118 : decode cX11_enoughBy 118 = .ok (.iadd, 1) := by decide +kernel
theorem dX11_enoughBy_119 : decode cX11_enoughBy 119 = .ok (.istore 6, 2) := by decide +kernel
theorem dX11_enoughBy_121 : decode cX11_enoughBy 121 = .ok (.iload_n 3, 1) := by decide +kernel
theorem dX11_enoughBy_122 : decode cX11_enoughBy 122 = .ok (.iload 8, 2) := by decide +kernel
theorem dX11_enoughBy_124 : decode cX11_enoughBy 124 = .ok (.ifCond .eq 7, 3) := by decide +kernel
theorem dX11_enoughBy_127 : decode cX11_enoughBy 127 = .ok (.iconst 1, 1) := by decide +kernel
theorem dX11_enoughBy_128 : decode cX11_enoughBy 128 = .ok (.goto 4, 3) := by decide +kernel
theorem dX11_enoughBy_131 : decode cX11_enoughBy 131 = .ok (.iconst 0, 1) := by decide +kernel
theorem dX11_enoughBy_132 : decode cX11_enoughBy 132 = .ok (.isub, 1) := by decide +kernel
theorem dX11_enoughBy_133 : decode cX11_enoughBy 133 = .ok (.istore_n 3, 1) := by decide +kernel
theorem dX11_enoughBy_134 : decode cX11_enoughBy 134 = .ok (.iinc 7 1, 3) := by decide +kernel
theorem dX11_enoughBy_137 : decode cX11_enoughBy 137 = .ok (.goto (-99), 3) := by decide +kernel
theorem dX11_enoughBy_140 : decode cX11_enoughBy 140 = .ok (.iload_n 2, 1) := by decide +kernel
theorem dX11_enoughBy_141 : decode cX11_enoughBy 141 = .ok (.iload 6, 2) := by decide +kernel
theorem dX11_enoughBy_143 : decode cX11_enoughBy 143 = .ok (.iconst 3, 1) := by decide +kernel
theorem dX11_enoughBy_144 : decode cX11_enoughBy 144 = .ok (.aload_n 0, 1) := by decide +kernel
theorem dX11_enoughBy_145 : decode cX11_enoughBy 145 = .ok (.getfield 7, 3) := by decide +kernel
theorem dX11_enoughBy_148 : decode cX11_enoughBy 148 = .ok (.iload 5, 2) := by decide +kernel
theorem dX11_enoughBy_150 : decode cX11_enoughBy 150 = .ok (.iaload, 1) := by decide +kernel
theorem dX11_enoughBy_151 : decode cX11_enoughBy 151 = .ok (.imul, 1) := by decide +kernel
theorem dX11_enoughBy_152 : decode cX11_enoughBy 152 = .ok (.if_icmp .lt 10, 3) := by decide +kernel
theorem dX11_enoughBy_155 : decode cX11_enoughBy 155 = .ok (.iconst 1, 1) := by decide +kernel
theorem dX11_enoughBy_156 : decode cX11_enoughBy 156 = .ok (.iload 5, 2) := by decide +kernel
theorem dX11_enoughBy_158 : decode cX11_enoughBy 158 = .ok (.ishl, 1) := by decide +kernel
theorem dX11_enoughBy_159 : decode cX11_enoughBy 159 = .ok (.goto 4, 3) := by decide +kernel
theorem dX11_enoughBy_162 : decode cX11_enoughBy 162 = .ok (.iconst 0, 1) := by decide +kernel
theorem dX11_enoughBy_163 : decode cX11_enoughBy 163 = .ok (.ior, 1) := by decide +kernel
theorem dX11_enoughBy_164 : decode cX11_enoughBy 164 = .ok (.istore_n 2, 1) := by decide +kernel
theorem dX11_enoughBy_165 : decode cX11_enoughBy 165 = .ok (.iinc 4 1, 3) := by decide +kernel
theorem dX11_enoughBy_168 : decode cX11_enoughBy 168 = .ok (.goto (-157), 3) := by decide +kernel
theorem dX11_enoughBy_171 : decode cX11_enoughBy 171 = .ok (.iload_n 2, 1) := by decide +kernel
theorem dX11_enoughBy_172 : decode cX11_enoughBy 172 = .ok (.ireturn, 1) := by decide +kernel
theorem dX11_many_0 : decode cX11_many 0 = .ok (.iload_n 1, 1) := by decide +kernel
theorem dX11_many_1 : decode cX11_many 1 = .ok (.i2l, 1) := by decide +kernel
theorem dX11_many_2 : decode cX11_many 2 = .ok (.lconst 0, 1) := by decide +kernel
theorem dX11_many_3 : decode cX11_many 3 = .ok (.lconst 1, 1) := by decide +kernel
theorem dX11_many_4 : decode cX11_many 4 = .ok (.invokestatic 127, 3) := by decide +kernel
theorem dX11_many_7 : decode cX11_many 7 = .ok (.ifCond .ne 6, 3) := by decide +kernel
theorem dX11_many_10 : decode cX11_many 10 = .ok (.ldc 136, 2) := by decide +kernel
theorem dX11_many_12 : decode cX11_many 12 = .ok (.ireturn, 1) := by decide +kernel
theorem dX11_many_13 : decode cX11_many 13 = .ok (.iconst 0, 1) := by decide +kernel
theorem dX11_many_14 : decode cX11_many 14 = .ok (.istore_n 2, 1) := by decide +kernel
theorem dX11_many_15 : decode cX11_many 15 = .ok (.iconst 0, 1) := by decide +kernel
theorem dX11_many_16 : decode cX11_many 16 = .ok (.istore_n 3, 1) := by decide +kernel
theorem dX11_many_17 : decode cX11_many 17 = .ok (.iload_n 3, 1) := by decide +kernel
theorem dX11_many_18 : decode cX11_many 18 = .ok (.aload_n 0, 1) := by decide +kernel
theorem dX11_many_19 : decode cX11_many 19 = .ok (.getfield 124, 3) := by decide +kernel
theorem dX11_many_22 : decode cX11_many 22 = .ok (.if_icmp .ge 28, 3) := by decide +kernel
theorem dX11_many_25 : decode cX11_many 25 = .ok (.aload_n 0, 1) := by decide +kernel
theorem dX11_many_26 : decode cX11_many 26 = .ok (.getfield 41, 3) := by decide +kernel
theorem dX11_many_29 : decode cX11_many 29 = .ok (.iload_n 3, 1) := by decide +kernel
theorem dX11_many_30 : decode cX11_many 30 = .ok (.iaload, 1) := by decide +kernel
theorem dX11_many_31 : decode cX11_many 31 = .ok (.ifCond .ne 13, 3) := by decide +kernel
theorem dX11_many_34 : decode cX11_many 34 = .ok (.aload_n 0, 1) := by decide +kernel
theorem dX11_many_35 : decode cX11_many 35 = .ok (.getfield 103, 3) := by decide +kernel
theorem dX11_many_38 : decode cX11_many 38 = .ok (.iload_n 2, 1) := by decide +kernel
theorem dX11_many_39 : decode cX11_many 39 = .ok (.iload_n 3, 1) := by decide +kernel
theorem dX11_many_40 : decode cX11_many 40 = .ok (.iastore, 1) := by decide +kernel
theorem dX11_many_41 : decode cX11_many 41 = .ok (.iinc 2 1, 3) := by decide +kernel
theorem dX11_many_44 : decode cX11_many 44 = .ok (.iinc 3 1, 3) := by decide +kernel
theorem dX11_many_47 : decode cX11_many 47 = .ok (.goto (-30), 3) := by decide +kernel
theorem dX11_many_50 : decode cX11_many 50 = .ok (.iconst (-1), 1) := by decide +kernel
theorem dX11_many_51 : decode cX11_many 51 = .ok (.istore_n 3, 1) := by decide +kernel
theorem dX11_many_52 : decode cX11_many 52 = .ok (.iconst 1, 1) := by decide +kernel
theorem dX11_many_53 : decode cX11_many 53 = .ok (.istore 4, 2) := by decide +kernel
theorem dX11_many_55 : decode cX11_many 55 = .ok (.iload 4, 2) := by decide +kernel
theorem dX11_many_57 : decode cX11_many 57 = .ok (.ifCond .eq 73, 3) := by decide +kernel
theorem dX11_many_60 : decode cX11_many 60 = .ok (.aload_n 0, 1) := by decide +kernel
theorem dX11_many_61 : decode cX11_many 61 = .ok (.iload_n 2, 1) := by decide +kernel
theorem dX11_many_62 : decode cX11_many 62 = .ok (.invokevirtual 377, 3) := by decide +kernel
theorem dX11_many_65 : decode cX11_many 65 = .ok (.istore 5, 2) := by decide +kernel
theorem dX11_many_67 : decode cX11_many 67 = .ok (.iload_n 3, 1) := by decide +kernel
theorem dX11_many_68 : decode cX11_many 68 = .ok (.ifCond .lt 33, 3) := by decide +kernel
theorem dX11_many_71 : decode cX11_many 71 = .ok (.iload 5, 2) := by decide +kernel
theorem dX11_many_73 : decode cX11_many 73 = .ok (.invokestatic 313, 3) := by decide +kernel
theorem dX11_many_76 : decode cX11_many 76 = .ok (.iload_n 3, 1) := by decide +kernel
theorem dX11_many_77 : decode cX11_many 77 = .ok (.invokestatic 313, 3) := by decide +kernel
theorem dX11_many_80 : decode cX11_many 80 = .ok (.if_icmp .gt 21, 3) := by decide +kernel
theorem dX11_many_83 : decode cX11_many 83 = .ok (.iload 5, 2) := by decide +kernel
theorem dX11_many_85 : decode cX11_many 85 = .ok (.invokestatic 313, 3) := by decide +kernel
theorem dX11_many_88 : decode cX11_many 88 = .ok (.iload_n 3, 1) := by decide +kernel
theorem dX11_many_89 : decode cX11_many 89 = .ok (.invokestatic 313, 3) := by decide +kernel
theorem dX11_many_92 : decode cX11_many 92 = .ok (.if_icmp .ne 13, 3) := by decide +kernel
theorem dX11_many_95 : decode cX11_many 95 = .ok (.iload 5, 2) := by decide +kernel
theorem dX11_many_97 : decode cX11_many 97 = .ok (.iload_n 3, 1) := by decide +kernel
theorem dX11_many_98 : decode cX11_many 98 = .ok (.if_icmp .ge 7, 3) := by decide +kernel
theorem dX11_many_101 : decode cX11_many 101 = .ok (.iconst 1, 1) := by decide +kernel
theorem dX11_many_102 : decode cX11_many 102 = .ok (.goto 4, 3) := by decide +kernel
theorem dX11_many_105 : decode cX11_many 105 = .ok (.iconst 0, 1) := by decide +kernel
theorem dX11_many_106 : decode cX11_many 106 = .ok (.istore 6, 2) := by decide +kernel
theorem dX11_many_108 : decode cX11_many 108 = .ok (.iload 6, 2) := by decide +kernel
theorem dX11_many_110 : decode cX11_many 110 = .ok (.ifCond .eq 8, 3) := by decide +kernel
theorem dX11_many_113 : decode cX11_many 113 = .ok (.iload 5, 2) := by decide +kernel
theorem dX11_many_115 : decode cX11_many 115 = .ok (.goto 4, 3) := by decide +kernel
theorem dX11_many_118 : decode cX11_many 118 = .ok (.iload_n 3, 1) := by decide +kernel
theorem dX11_many_119 : decode cX11_many 119 = .ok (.istore_n 3, 1) := by decide +kernel
theorem dX11_many_120 : decode cX11_many 120 = .ok (.aload_n 0, 1) := by decide +kernel
theorem dX11_many_121 : decode cX11_many 121 = .ok (.iload_n 2, 1) := by decide +kernel
theorem dX11_many_122 : decode cX11_many 122 = .ok (.invokevirtual 380, 3) := by decide +kernel
theorem dX11_many_125 : decode cX11_many 125 = .ok (.istore 4, 2) := by decide +kernel
theorem dX11_many_127 : decode cX11_many 127 = .ok (.goto (-72), 3) := by decide +kernel
theorem dX11_many_130 : decode cX11_many 130 = .ok (.iload_n 1, 1) := by decide +kernel
theorem dX11_many_131 : decode cX11_many 131 = .ok (.ifCond .ne 10, 3) := by decide +kernel
theorem dX11_many_134 : decode cX11_many 134 = .ok (.iload_n 3, 1) := by decide +kernel
theorem dX11_many_135 : decode cX11_many 135 = .ok (.invokestatic 313, 3) := by decide +kernel
theorem dX11_many_138 : decode cX11_many 138 = .ok (.goto 4, 3) := by decide +kernel
theorem dX11_many_141 : decode cX11_many 141 = .ok (.iload_n 3, 1) := by decide +kernel
theorem dX11_many_142 : decode cX11_many 142 = .ok (.ireturn, 1) := by decide +kernel
theorem dX11_write_0 : decode cX11_write 0 = .ok (.aload_n 0, 1) := by decide +kernel
theorem dX11_write_1 : decode cX11_write 1 = .ok (.iload_n 1, 1) := by decide +kernel
theorem dX11_write_2 : decode cX11_write 2 = .ok (.invokevirtual 244, 3) := by decide +kernel
theorem dX11_write_5 : decode cX11_write 5 = .ok (.ifCond .ne 6, 3) := by decide +kernel
theorem dX11_write_8 : decode cX11_write 8 = .ok (.ldc 248, 2) := by decide +kernel
theorem dX11_write_10 : decode cX11_write 10 = .ok (.ireturn, 1) := by decide +kernel
theorem dX11_write_11 : decode cX11_write 11 = .ok (.iload_n 2, 1) := by decide +kernel
theorem dX11_write_12 : decode cX11_write 12 = .ok (.i2l, 1) := by decide +kernel
theorem dX11_write_13 : decode cX11_write 13 = .ok (.lconst 0, 1) := by decide +kernel
theorem dX11_write_14 : decode cX11_write 14 = .ok (.ldc2_w 383, 3) := by decide +kernel
theorem dX11_write_17 : decode cX11_write 17 = .ok (.invokestatic 127, 3) := by decide +kernel
theorem dX11_write_20 : decode cX11_write 20 = .ok (.ifCond .ne 6, 3) := by decide +kernel
theorem dX11_write_23 : decode cX11_write 23 = .ok (.ldc 136, 2) := by decide +kernel
theorem dX11_write_25 : decode cX11_write 25 = .ok (.ireturn, 1) := by decide +kernel
theorem dX11_write_26 : decode cX11_write 26 = .ok (.aload_n 0, 1) := by decide +kernel
theorem dX11_write_27 : decode cX11_write 27 = .ok (.getfield 106, 3) := by decide +kernel
theorem dX11_write_30 : decode cX11_write 30 = .ok (.iload_n 1, 1) := by decide +kernel
theorem dX11_write_31 : decode cX11_write 31 = .ok (.iaload, 1) := by decide +kernel
theorem dX11_write_32 : decode cX11_write 32 = .ok (.bipush 60, 2) := by decide +kernel
theorem dX11_write_34 : decode cX11_write 34 = .ok (.if_icmp .ne 6, 3) := by decide +kernel
theorem dX11_write_37 : decode cX11_write 37 = .ok (.ldc 140, 2) := by decide +kernel
theorem dX11_write_39 : decode cX11_write 39 = .ok (.ireturn, 1) := by decide +kernel
theorem dX11_write_40 : decode cX11_write 40 = .ok (.aload_n 0, 1) := by decide +kernel
theorem dX11_write_41 : decode cX11_write 41 = .ok (.getfield 109, 3) := by decide +kernel
theorem dX11_write_44 : decode cX11_write 44 = .ok (.bipush 60, 2) := by decide +kernel
theorem dX11_write_46 : decode cX11_write 46 = .ok (.iload_n 1, 1) := by decide +kernel
theorem dX11_write_47 : decode cX11_write 47 = .ok (.imul, 1) := by decide +kernel
theorem dX11_write_48 : decode cX11_write 48 = .ok (.aload_n 0, 1) := by decide +kernel
theorem dX11_write_49 : decode cX11_write 49 = .ok (.getfield 106, 3) := by decide +kernel
theorem dX11_write_52 : decode cX11_write 52 = .ok (.iload_n 1, 1) := by decide +kernel
theorem dX11_write_53 : decode cX11_write 53 = .ok (.iaload, 1) := by decide +kernel
theorem dX11_write_54 : decode cX11_write 54 = .ok (.iadd, 1) := by decide +kernel
theorem dX11_write_55 : decode cX11_write 55 = .ok (.iload_n 2, 1) := by decide +kernel
theorem dX11_write_56 : decode cX11_write 56 = .ok (.iastore, 1) := by decide +kernel
theorem dX11_write_57 : decode cX11_write 57 = .ok (.aload_n 0, 1) := by decide +kernel
theorem dX11_write_58 : decode cX11_write 58 = .ok (.getfield 106, 3) := by decide +kernel
theorem dX11_write_61 : decode cX11_write 61 = .ok (.iload_n 1, 1) := by decide +kernel
theorem dX11_write_62 : decode cX11_write 62 = .ok (.dup2, 1) := by decide +kernel
theorem dX11_write_63 : decode cX11_write 63 = .ok (.iaload, 1) := by decide +kernel
theorem dX11_write_64 : decode cX11_write 64 = .ok (.iconst 1, 1) := by decide +kernel
theorem dX11_write_65 : decode cX11_write 65 = .ok (.iadd, 1) := by decide +kernel
theorem dX11_write_66 : decode cX11_write 66 = .ok (.iastore, 1) := by decide +kernel
theorem dX11_write_67 : decode cX11_write 67 = .ok (.aload_n 0, 1) := by decide +kernel
theorem dX11_write_68 : decode cX11_write 68 = .ok (.getfield 106, 3) := by decide +kernel
theorem dX11_write_71 : decode cX11_write 71 = .ok (.iload_n 1, 1) := by decide +kernel
theorem dX11_write_72 : decode cX11_write 72 = .ok (.iaload, 1) := by decide +kernel
theorem dX11_write_73 : decode cX11_write 73 = .ok (.ireturn, 1) := by decide +kernel
theorem dX11_tear_0 : decode cX11_tear 0 = .ok (.aload_n 0, 1) := by decide +kernel
theorem dX11_tear_1 : decode cX11_tear 1 = .ok (.iload_n 1, 1) := by decide +kernel
theorem dX11_tear_2 : decode cX11_tear 2 = .ok (.invokevirtual 244, 3) := by decide +kernel
theorem dX11_tear_5 : decode cX11_tear 5 = .ok (.ifCond .ne 6, 3) := by decide +kernel
theorem dX11_tear_8 : decode cX11_tear 8 = .ok (.ldc 248, 2) := by decide +kernel
theorem dX11_tear_10 : decode cX11_tear 10 = .ok (.ireturn, 1) := by decide +kernel
theorem dX11_tear_11 : decode cX11_tear 11 = .ok (.aload_n 0, 1) := by decide +kernel
theorem dX11_tear_12 : decode cX11_tear 12 = .ok (.getfield 106, 3) := by decide +kernel
theorem dX11_tear_15 : decode cX11_tear 15 = .ok (.iload_n 1, 1) := by decide +kernel
theorem dX11_tear_16 : decode cX11_tear 16 = .ok (.iaload, 1) := by decide +kernel
theorem dX11_tear_17 : decode cX11_tear 17 = .ok (.istore_n 2, 1) := by decide +kernel
theorem dX11_tear_18 : decode cX11_tear 18 = .ok (.aload_n 0, 1) := by decide +kernel
theorem dX11_tear_19 : decode cX11_tear 19 = .ok (.getfield 106, 3) := by decide +kernel
theorem dX11_tear_22 : decode cX11_tear 22 = .ok (.iload_n 1, 1) := by decide +kernel
theorem dX11_tear_23 : decode cX11_tear 23 = .ok (.iconst 0, 1) := by decide +kernel
theorem dX11_tear_24 : decode cX11_tear 24 = .ok (.iastore, 1) := by decide +kernel
theorem dX11_tear_25 : decode cX11_tear 25 = .ok (.iload_n 2, 1) := by decide +kernel
theorem dX11_tear_26 : decode cX11_tear 26 = .ok (.ireturn, 1) := by decide +kernel
theorem dX11_judge_0 : decode cX11_judge 0 = .ok (.aload_n 0, 1) := by decide +kernel
theorem dX11_judge_1 : decode cX11_judge 1 = .ok (.iload_n 1, 1) := by decide +kernel
theorem dX11_judge_2 : decode cX11_judge 2 = .ok (.invokevirtual 244, 3) := by decide +kernel
theorem dX11_judge_5 : decode cX11_judge 5 = .ok (.ifCond .ne 6, 3) := by decide +kernel
theorem dX11_judge_8 : decode cX11_judge 8 = .ok (.ldc 248, 2) := by decide +kernel
theorem dX11_judge_10 : decode cX11_judge 10 = .ok (.ireturn, 1) := by decide +kernel
theorem dX11_judge_11 : decode cX11_judge 11 = .ok (.iconst 0, 1) := by decide +kernel
theorem dX11_judge_12 : decode cX11_judge 12 = .ok (.istore_n 2, 1) := by decide +kernel
theorem dX11_judge_13 : decode cX11_judge 13 = .ok (.iload_n 2, 1) := by decide +kernel
theorem dX11_judge_14 : decode cX11_judge 14 = .ok (.aload_n 0, 1) := by decide +kernel
theorem dX11_judge_15 : decode cX11_judge 15 = .ok (.getfield 106, 3) := by decide +kernel
theorem dX11_judge_18 : decode cX11_judge 18 = .ok (.iload_n 1, 1) := by decide +kernel
theorem dX11_judge_19 : decode cX11_judge 19 = .ok (.iaload, 1) := by decide +kernel
theorem dX11_judge_20 : decode cX11_judge 20 = .ok (.if_icmp .ge 45, 3) := by decide +kernel
theorem dX11_judge_23 : decode cX11_judge 23 = .ok (.iload_n 2, 1) := by decide +kernel
theorem dX11_judge_24 : decode cX11_judge 24 = .ok (.aload_n 0, 1) := by decide +kernel
theorem dX11_judge_25 : decode cX11_judge 25 = .ok (.getfield 223, 3) := by decide +kernel
theorem dX11_judge_28 : decode cX11_judge 28 = .ok (.if_icmp .ge 37, 3) := by decide +kernel
theorem dX11_judge_31 : decode cX11_judge 31 = .ok (.aload_n 0, 1) := by decide +kernel
theorem dX11_judge_32 : decode cX11_judge 32 = .ok (.getfield 109, 3) := by decide +kernel
theorem dX11_judge_35 : decode cX11_judge 35 = .ok (.bipush 60, 2) := by decide +kernel
theorem dX11_judge_37 : decode cX11_judge 37 = .ok (.iload_n 1, 1) := by decide +kernel
theorem dX11_judge_38 : decode cX11_judge 38 = .ok (.imul, 1) := by decide +kernel
theorem dX11_judge_39 : decode cX11_judge 39 = .ok (.iload_n 2, 1) := by decide +kernel
theorem dX11_judge_40 : decode cX11_judge 40 = .ok (.iadd, 1) := by decide +kernel
theorem dX11_judge_41 : decode cX11_judge 41 = .ok (.iaload, 1) := by decide +kernel
theorem dX11_judge_42 : decode cX11_judge 42 = .ok (.aload_n 0, 1) := by decide +kernel
theorem dX11_judge_43 : decode cX11_judge 43 = .ok (.getfield 53, 3) := by decide +kernel
theorem dX11_judge_46 : decode cX11_judge 46 = .ok (.sipush 400, 3) := by decide +kernel
theorem dX11_judge_49 : decode cX11_judge 49 = .ok (.iload_n 1, 1) := by decide +kernel
theorem dX11_judge_50 : decode cX11_judge 50 = .ok (.imul, 1) := by decide +kernel
theorem dX11_judge_51 : decode cX11_judge 51 = .ok (.iload_n 2, 1) := by decide +kernel
theorem dX11_judge_52 : decode cX11_judge 52 = .ok (.iadd, 1) := by decide +kernel
theorem dX11_judge_53 : decode cX11_judge 53 = .ok (.iaload, 1) := by decide +kernel
theorem dX11_judge_54 : decode cX11_judge 54 = .ok (.if_icmp .eq 5, 3) := by decide +kernel
theorem dX11_judge_57 : decode cX11_judge 57 = .ok (.iload_n 2, 1) := by decide +kernel
theorem dX11_judge_58 : decode cX11_judge 58 = .ok (.ireturn, 1) := by decide +kernel
theorem dX11_judge_59 : decode cX11_judge 59 = .ok (.iinc 2 1, 3) := by decide +kernel
theorem dX11_judge_62 : decode cX11_judge 62 = .ok (.goto (-49), 3) := by decide +kernel
theorem dX11_judge_65 : decode cX11_judge 65 = .ok (.iconst (-1), 1) := by decide +kernel
theorem dX11_judge_66 : decode cX11_judge 66 = .ok (.ireturn, 1) := by decide +kernel
theorem dX11_evening_0 : decode cX11_evening 0 = .ok (.aload_n 0, 1) := by decide +kernel
theorem dX11_evening_1 : decode cX11_evening 1 = .ok (.iload_n 1, 1) := by decide +kernel
theorem dX11_evening_2 : decode cX11_evening 2 = .ok (.invokevirtual 244, 3) := by decide +kernel
theorem dX11_evening_5 : decode cX11_evening 5 = .ok (.ifCond .ne 6, 3) := by decide +kernel
theorem dX11_evening_8 : decode cX11_evening 8 = .ok (.ldc 248, 2) := by decide +kernel
theorem dX11_evening_10 : decode cX11_evening 10 = .ok (.ireturn, 1) := by decide +kernel
theorem dX11_evening_11 : decode cX11_evening 11 = .ok (.iload_n 2, 1) := by decide +kernel
theorem dX11_evening_12 : decode cX11_evening 12 = .ok (.i2l, 1) := by decide +kernel
theorem dX11_evening_13 : decode cX11_evening 13 = .ok (.lconst 0, 1) := by decide +kernel
theorem dX11_evening_14 : decode cX11_evening 14 = .ok (.ldc2_w 266, 3) := by decide +kernel
theorem dX11_evening_17 : decode cX11_evening 17 = .ok (.invokestatic 127, 3) := by decide +kernel
theorem dX11_evening_20 : decode cX11_evening 20 = .ok (.ifCond .ne 6, 3) := by decide +kernel
theorem dX11_evening_23 : decode cX11_evening 23 = .ok (.ldc 136, 2) := by decide +kernel
theorem dX11_evening_25 : decode cX11_evening 25 = .ok (.ireturn, 1) := by decide +kernel
theorem dX11_evening_26 : decode cX11_evening 26 = .ok (.iload_n 2, 1) := by decide +kernel
theorem dX11_evening_27 : decode cX11_evening 27 = .ok (.aload_n 0, 1) := by decide +kernel
theorem dX11_evening_28 : decode cX11_evening 28 = .ok (.getfield 223, 3) := by decide +kernel
theorem dX11_evening_31 : decode cX11_evening 31 = .ok (.if_icmp .ge 18, 3) := by decide +kernel
theorem dX11_evening_34 : decode cX11_evening 34 = .ok (.aload_n 0, 1) := by decide +kernel
theorem dX11_evening_35 : decode cX11_evening 35 = .ok (.getfield 53, 3) := by decide +kernel
theorem dX11_evening_38 : decode cX11_evening 38 = .ok (.sipush 400, 3) := by decide +kernel
theorem dX11_evening_41 : decode cX11_evening 41 = .ok (.iload_n 1, 1) := by decide +kernel
theorem dX11_evening_42 : decode cX11_evening 42 = .ok (.imul, 1) := by decide +kernel
theorem dX11_evening_43 : decode cX11_evening 43 = .ok (.iload_n 2, 1) := by decide +kernel
theorem dX11_evening_44 : decode cX11_evening 44 = .ok (.iadd, 1) := by decide +kernel
theorem dX11_evening_45 : decode cX11_evening 45 = .ok (.iaload, 1) := by decide +kernel
theorem dX11_evening_46 : decode cX11_evening 46 = .ok (.goto 4, 3) := by decide +kernel
theorem dX11_evening_49 : decode cX11_evening 49 = .ok (.iconst (-1), 1) := by decide +kernel
theorem dX11_evening_50 : decode cX11_evening 50 = .ok (.ireturn, 1) := by decide +kernel
theorem dX11_seed_0 : decode cX11_seed 0 = .ok (.iload_n 1, 1) := by decide +kernel
theorem dX11_seed_1 : decode cX11_seed 1 = .ok (.ifCond .ge 6, 3) := by decide +kernel
theorem dX11_seed_4 : decode cX11_seed 4 = .ok (.ldc 136, 2) := by decide +kernel
theorem dX11_seed_6 : decode cX11_seed 6 = .ok (.ireturn, 1) := by decide +kernel
theorem dX11_seed_7 : decode cX11_seed 7 = .ok (.aload_n 0, 1) := by decide +kernel
theorem dX11_seed_8 : decode cX11_seed 8 = .ok (.getfield 286, 3) := by decide +kernel
theorem dX11_seed_11 : decode cX11_seed 11 = .ok (.istore_n 2, 1) := by decide +kernel
theorem dX11_seed_12 : decode cX11_seed 12 = .ok (.aload_n 0, 1) := by decide +kernel
theorem dX11_seed_13 : decode cX11_seed 13 = .ok (.iload_n 1, 1) := by decide +kernel
theorem dX11_seed_14 : decode cX11_seed 14 = .ok (.putfield 286, 3) := by decide +kernel
theorem dX11_seed_17 : decode cX11_seed 17 = .ok (.iload_n 2, 1) := by decide +kernel
theorem dX11_seed_18 : decode cX11_seed 18 = .ok (.ireturn, 1) := by decide +kernel
theorem dX11_keep_0 : decode cX11_keep 0 = .ok (.iload_n 1, 1) := by decide +kernel
theorem dX11_keep_1 : decode cX11_keep 1 = .ok (.i2l, 1) := by decide +kernel
theorem dX11_keep_2 : decode cX11_keep 2 = .ok (.lconst 0, 1) := by decide +kernel
theorem dX11_keep_3 : decode cX11_keep 3 = .ok (.lconst 1, 1) := by decide +kernel
theorem dX11_keep_4 : decode cX11_keep 4 = .ok (.invokestatic 127, 3) := by decide +kernel
theorem dX11_keep_7 : decode cX11_keep 7 = .ok (.ifCond .ne 6, 3) := by decide +kernel
theorem dX11_keep_10 : decode cX11_keep 10 = .ok (.ldc 248, 2) := by decide +kernel
theorem dX11_keep_12 : decode cX11_keep 12 = .ok (.ireturn, 1) := by decide +kernel
theorem dX11_keep_13 : decode cX11_keep 13 = .ok (.bipush 60, 2) := by decide +kernel
theorem dX11_keep_15 : decode cX11_keep 15 = .ok (.iload_n 1, 1) := by decide +kernel
theorem dX11_keep_16 : decode cX11_keep 16 = .ok (.imul, 1) := by decide +kernel
theorem dX11_keep_17 : decode cX11_keep 17 = .ok (.istore_n 2, 1) := by decide +kernel
theorem dX11_keep_18 : decode cX11_keep 18 = .ok (.aload_n 0, 1) := by decide +kernel
theorem dX11_keep_19 : decode cX11_keep 19 = .ok (.getfield 112, 3) := by decide +kernel
theorem dX11_keep_22 : decode cX11_keep 22 = .ok (.iload_n 2, 1) := by decide +kernel
theorem dX11_keep_23 : decode cX11_keep 23 = .ok (.aload_n 0, 1) := by decide +kernel
theorem dX11_keep_24 : decode cX11_keep 24 = .ok (.getfield 223, 3) := by decide +kernel
theorem dX11_keep_27 : decode cX11_keep 27 = .ok (.iastore, 1) := by decide +kernel
theorem dX11_keep_28 : decode cX11_keep 28 = .ok (.aload_n 0, 1) := by decide +kernel
theorem dX11_keep_29 : decode cX11_keep 29 = .ok (.getfield 112, 3) := by decide +kernel
theorem dX11_keep_32 : decode cX11_keep 32 = .ok (.iload_n 2, 1) := by decide +kernel
theorem dX11_keep_33 : decode cX11_keep 33 = .ok (.iconst 1, 1) := by decide +kernel
theorem dX11_keep_34 : decode cX11_keep 34 = .ok (.iadd, 1) := by decide +kernel
theorem dX11_keep_35 : decode cX11_keep 35 = .ok (.aload_n 0, 1) := by decide +kernel
theorem dX11_keep_36 : decode cX11_keep 36 = .ok (.getfield 226, 3) := by decide +kernel
theorem dX11_keep_39 : decode cX11_keep 39 = .ok (.iastore, 1) := by decide +kernel
theorem dX11_keep_40 : decode cX11_keep 40 = .ok (.aload_n 0, 1) := by decide +kernel
theorem dX11_keep_41 : decode cX11_keep 41 = .ok (.getfield 112, 3) := by decide +kernel
theorem dX11_keep_44 : decode cX11_keep 44 = .ok (.iload_n 2, 1) := by decide +kernel
theorem dX11_keep_45 : decode cX11_keep 45 = .ok (.iconst 2, 1) := by decide +kernel
theorem dX11_keep_46 : decode cX11_keep 46 = .ok (.iadd, 1) := by decide +kernel
theorem dX11_keep_47 : decode cX11_keep 47 = .ok (.aload_n 0, 1) := by decide +kernel
theorem dX11_keep_48 : decode cX11_keep 48 = .ok (.getfield 286, 3) := by decide +kernel
theorem dX11_keep_51 : decode cX11_keep 51 = .ok (.iastore, 1) := by decide +kernel
theorem dX11_keep_52 : decode cX11_keep 52 = .ok (.iconst 0, 1) := by decide +kernel
theorem dX11_keep_53 : decode cX11_keep 53 = .ok (.istore_n 3, 1) := by decide +kernel
theorem dX11_keep_54 : decode cX11_keep 54 = .ok (.iload_n 3, 1) := by decide +kernel
theorem dX11_keep_55 : decode cX11_keep 55 = .ok (.bipush 12, 2) := by decide +kernel
theorem dX11_keep_57 : decode cX11_keep 57 = .ok (.if_icmp .ge 67, 3) := by decide +kernel
theorem dX11_keep_60 : decode cX11_keep 60 = .ok (.aload_n 0, 1) := by decide +kernel
theorem dX11_keep_61 : decode cX11_keep 61 = .ok (.getfield 112, 3) := by decide +kernel
theorem dX11_keep_64 : decode cX11_keep 64 = .ok (.iload_n 2, 1) := by decide +kernel
theorem dX11_keep_65 : decode cX11_keep 65 = .ok (.iconst 3, 1) := by decide +kernel
theorem dX11_keep_66 : decode cX11_keep 66 = .ok (.iadd, 1) := by decide +kernel
theorem dX11_keep_67 : decode cX11_keep 67 = .ok (.iload_n 3, 1) := by decide +kernel
theorem dX11_keep_68 : decode cX11_keep 68 = .ok (.iadd, 1) := by decide +kernel
theorem dX11_keep_69 : decode cX11_keep 69 = .ok (.aload_n 0, 1) := by decide +kernel
theorem dX11_keep_70 : decode cX11_keep 70 = .ok (.getfield 31, 3) := by decide +kernel
theorem dX11_keep_73 : decode cX11_keep 73 = .ok (.iload_n 3, 1) := by decide +kernel
theorem dX11_keep_74 : decode cX11_keep 74 = .ok (.iaload, 1) := by decide +kernel
theorem dX11_keep_75 : decode cX11_keep 75 = .ok (.iastore, 1) := by decide +kernel
theorem dX11_keep_76 : decode cX11_keep 76 = .ok (.aload_n 0, 1) := by decide +kernel
theorem dX11_keep_77 : decode cX11_keep 77 = .ok (.getfield 112, 3) := by decide +kernel
theorem dX11_keep_80 : decode cX11_keep 80 = .ok (.iload_n 2, 1) := by decide +kernel
theorem dX11_keep_81 : decode cX11_keep 81 = .ok (.bipush 15, 2) := by decide +kernel
theorem dX11_keep_83 : decode cX11_keep 83 = .ok (.iadd, 1) := by decide +kernel
theorem dX11_keep_84 : decode cX11_keep 84 = .ok (.iload_n 3, 1) := by decide +kernel
theorem dX11_keep_85 : decode cX11_keep 85 = .ok (.iadd, 1) := by decide +kernel
theorem dX11_keep_86 : decode cX11_keep 86 = .ok (.aload_n 0, 1) := by decide +kernel
theorem dX11_keep_87 : decode cX11_keep 87 = .ok (.getfield 34, 3) := by decide +kernel
theorem dX11_keep_90 : decode cX11_keep 90 = .ok (.iload_n 3, 1) := by decide +kernel
theorem dX11_keep_91 : decode cX11_keep 91 = .ok (.iaload, 1) := by decide +kernel
theorem dX11_keep_92 : decode cX11_keep 92 = .ok (.iastore, 1) := by decide +kernel
theorem dX11_keep_93 : decode cX11_keep 93 = .ok (.aload_n 0, 1) := by decide +kernel
theorem dX11_keep_94 : decode cX11_keep 94 = .ok (.getfield 112, 3) := by decide +kernel
theorem dX11_keep_97 : decode cX11_keep 97 = .ok (.iload_n 2, 1) := by decide +kernel
theorem dX11_keep_98 : decode cX11_keep 98 = .ok (.bipush 27, 2) := by decide +kernel
theorem dX11_keep_100 : decode cX11_keep 100 = .ok (.iadd, 1) := by decide +kernel
theorem dX11_keep_101 : decode cX11_keep 101 = .ok (.iload_n 3, 1) := by decide +kernel
theorem dX11_keep_102 : decode cX11_keep 102 = .ok (.iadd, 1) := by decide +kernel
theorem dX11_keep_103 : decode cX11_keep 103 = .ok (.aload_n 0, 1) := by decide +kernel
theorem dX11_keep_104 : decode cX11_keep 104 = .ok (.getfield 37, 3) := by decide +kernel
theorem dX11_keep_107 : decode cX11_keep 107 = .ok (.iload_n 3, 1) := by decide +kernel
theorem dX11_keep_108 : decode cX11_keep 108 = .ok (.baload, 1) := by decide +kernel
theorem dX11_keep_109 : decode cX11_keep 109 = .ok (.ifCond .eq 7, 3) := by decide +kernel
theorem dX11_keep_112 : decode cX11_keep 112 = .ok (.iconst 1, 1) := by decide +kernel
theorem dX11_keep_113 : decode cX11_keep 113 = .ok (.goto 4, 3) := by decide +kernel
theorem dX11_keep_116 : decode cX11_keep 116 = .ok (.iconst 0, 1) := by decide +kernel
theorem dX11_keep_117 : decode cX11_keep 117 = .ok (.iastore, 1) := by decide +kernel
theorem dX11_keep_118 : decode cX11_keep 118 = .ok (.iinc 3 1, 3) := by decide +kernel
theorem dX11_keep_121 : decode cX11_keep 121 = .ok (.goto (-67), 3) := by decide +kernel
theorem dX11_keep_124 : decode cX11_keep 124 = .ok (.iconst 0, 1) := by decide +kernel
theorem dX11_keep_125 : decode cX11_keep 125 = .ok (.istore_n 3, 1) := by decide +kernel
theorem dX11_keep_126 : decode cX11_keep 126 = .ok (.iload_n 3, 1) := by decide +kernel
theorem dX11_keep_127 : decode cX11_keep 127 = .ok (.bipush 6, 2) := by decide +kernel
theorem dX11_keep_129 : decode cX11_keep 129 = .ok (.if_icmp .ge 60, 3) := by decide +kernel
theorem dX11_keep_132 : decode cX11_keep 132 = .ok (.aload_n 0, 1) := by decide +kernel
theorem dX11_keep_133 : decode cX11_keep 133 = .ok (.getfield 112, 3) := by decide +kernel
theorem dX11_keep_136 : decode cX11_keep 136 = .ok (.iload_n 2, 1) := by decide +kernel
theorem dX11_keep_137 : decode cX11_keep 137 = .ok (.bipush 39, 2) := by decide +kernel
theorem dX11_keep_139 : decode cX11_keep 139 = .ok (.iadd, 1) := by decide +kernel
theorem dX11_keep_140 : decode cX11_keep 140 = .ok (.iload_n 3, 1) := by decide +kernel
theorem dX11_keep_141 : decode cX11_keep 141 = .ok (.iadd, 1) := by decide +kernel
theorem dX11_keep_142 : decode cX11_keep 142 = .ok (.aload_n 0, 1) := by decide +kernel
theorem dX11_keep_143 : decode cX11_keep 143 = .ok (.getfield 41, 3) := by decide +kernel
theorem dX11_keep_146 : decode cX11_keep 146 = .ok (.iload_n 3, 1) := by decide +kernel
theorem dX11_keep_147 : decode cX11_keep 147 = .ok (.iaload, 1) := by decide +kernel
theorem dX11_keep_148 : decode cX11_keep 148 = .ok (.iastore, 1) := by decide +kernel
theorem dX11_keep_149 : decode cX11_keep 149 = .ok (.aload_n 0, 1) := by decide +kernel
theorem dX11_keep_150 : decode cX11_keep 150 = .ok (.getfield 112, 3) := by decide +kernel
theorem dX11_keep_153 : decode cX11_keep 153 = .ok (.iload_n 2, 1) := by decide +kernel
theorem dX11_keep_154 : decode cX11_keep 154 = .ok (.bipush 45, 2) := by decide +kernel
theorem dX11_keep_156 : decode cX11_keep 156 = .ok (.iadd, 1) := by decide +kernel
theorem dX11_keep_157 : decode cX11_keep 157 = .ok (.iload_n 3, 1) := by decide +kernel
theorem dX11_keep_158 : decode cX11_keep 158 = .ok (.iadd, 1) := by decide +kernel
theorem dX11_keep_159 : decode cX11_keep 159 = .ok (.aload_n 0, 1) := by decide +kernel
theorem dX11_keep_160 : decode cX11_keep 160 = .ok (.getfield 44, 3) := by decide +kernel
theorem dX11_keep_163 : decode cX11_keep 163 = .ok (.iload_n 3, 1) := by decide +kernel
theorem dX11_keep_164 : decode cX11_keep 164 = .ok (.iaload, 1) := by decide +kernel
theorem dX11_keep_165 : decode cX11_keep 165 = .ok (.iastore, 1) := by decide +kernel
theorem dX11_keep_166 : decode cX11_keep 166 = .ok (.aload_n 0, 1) := by decide +kernel
theorem dX11_keep_167 : decode cX11_keep 167 = .ok (.getfield 112, 3) := by decide +kernel
theorem dX11_keep_170 : decode cX11_keep 170 = .ok (.iload_n 2, 1) := by decide +kernel
theorem dX11_keep_171 : decode cX11_keep 171 = .ok (.bipush 51, 2) := by decide +kernel
theorem dX11_keep_173 : decode cX11_keep 173 = .ok (.iadd, 1) := by decide +kernel
theorem dX11_keep_174 : decode cX11_keep 174 = .ok (.iload_n 3, 1) := by decide +kernel
theorem dX11_keep_175 : decode cX11_keep 175 = .ok (.iadd, 1) := by decide +kernel
theorem dX11_keep_176 : decode cX11_keep 176 = .ok (.aload_n 0, 1) := by decide +kernel
theorem dX11_keep_177 : decode cX11_keep 177 = .ok (.getfield 47, 3) := by decide +kernel
theorem dX11_keep_180 : decode cX11_keep 180 = .ok (.iload_n 3, 1) := by decide +kernel
theorem dX11_keep_181 : decode cX11_keep 181 = .ok (.iaload, 1) := by decide +kernel
theorem dX11_keep_182 : decode cX11_keep 182 = .ok (.iastore, 1) := by decide +kernel
theorem dX11_keep_183 : decode cX11_keep 183 = .ok (.iinc 3 1, 3) := by decide +kernel
theorem dX11_keep_186 : decode cX11_keep 186 = .ok (.goto (-60), 3) := by decide +kernel
theorem dX11_keep_189 : decode cX11_keep 189 = .ok (.iconst 0, 1) := by decide +kernel
theorem dX11_keep_190 : decode cX11_keep 190 = .ok (.istore_n 3, 1) := by decide +kernel
theorem dX11_keep_191 : decode cX11_keep 191 = .ok (.iload_n 3, 1) := by decide +kernel
theorem dX11_keep_192 : decode cX11_keep 192 = .ok (.sipush 2400, 3) := by decide +kernel
theorem dX11_keep_195 : decode cX11_keep 195 = .ok (.if_icmp .ge 45, 3) := by decide +kernel
theorem dX11_keep_198 : decode cX11_keep 198 = .ok (.aload_n 0, 1) := by decide +kernel
theorem dX11_keep_199 : decode cX11_keep 199 = .ok (.getfield 115, 3) := by decide +kernel
theorem dX11_keep_202 : decode cX11_keep 202 = .ok (.sipush 2400, 3) := by decide +kernel
theorem dX11_keep_205 : decode cX11_keep 205 = .ok (.iload_n 1, 1) := by decide +kernel
theorem dX11_keep_206 : decode cX11_keep 206 = .ok (.imul, 1) := by decide +kernel
theorem dX11_keep_207 : decode cX11_keep 207 = .ok (.iload_n 3, 1) := by decide +kernel
theorem dX11_keep_208 : decode cX11_keep 208 = .ok (.iadd, 1) := by decide +kernel
theorem dX11_keep_209 : decode cX11_keep 209 = .ok (.aload_n 0, 1) := by decide +kernel
theorem dX11_keep_210 : decode cX11_keep 210 = .ok (.getfield 50, 3) := by decide +kernel
theorem dX11_keep_213 : decode cX11_keep 213 = .ok (.iload_n 3, 1) := by decide +kernel
theorem dX11_keep_214 : decode cX11_keep 214 = .ok (.iaload, 1) := by decide +kernel
theorem dX11_keep_215 : decode cX11_keep 215 = .ok (.iastore, 1) := by decide +kernel
theorem dX11_keep_216 : decode cX11_keep 216 = .ok (.aload_n 0, 1) := by decide +kernel
theorem dX11_keep_217 : decode cX11_keep 217 = .ok (.getfield 118, 3) := by decide +kernel
theorem dX11_keep_220 : decode cX11_keep 220 = .ok (.sipush 2400, 3) := by decide +kernel
theorem dX11_keep_223 : decode cX11_keep 223 = .ok (.iload_n 1, 1) := by decide +kernel
theorem dX11_keep_224 : decode cX11_keep 224 = .ok (.imul, 1) := by decide +kernel
theorem dX11_keep_225 : decode cX11_keep 225 = .ok (.iload_n 3, 1) := by decide +kernel
theorem dX11_keep_226 : decode cX11_keep 226 = .ok (.iadd, 1) := by decide +kernel
theorem dX11_keep_227 : decode cX11_keep 227 = .ok (.aload_n 0, 1) := by decide +kernel
theorem dX11_keep_228 : decode cX11_keep 228 = .ok (.getfield 53, 3) := by decide +kernel
theorem dX11_keep_231 : decode cX11_keep 231 = .ok (.iload_n 3, 1) := by decide +kernel
theorem dX11_keep_232 : decode cX11_keep 232 = .ok (.iaload, 1) := by decide +kernel
theorem dX11_keep_233 : decode cX11_keep 233 = .ok (.iastore, 1) := by decide +kernel
theorem dX11_keep_234 : decode cX11_keep 234 = .ok (.iinc 3 1, 3) := by decide +kernel
theorem dX11_keep_237 : decode cX11_keep 237 = .ok (.goto (-46), 3) := by decide +kernel
theorem dX11_keep_240 : decode cX11_keep 240 = .ok (.aload_n 0, 1) := by decide +kernel
theorem dX11_keep_241 : decode cX11_keep 241 = .ok (.getfield 121, 3) := by decide +kernel
theorem dX11_keep_244 : decode cX11_keep 244 = .ok (.iload_n 1, 1) := by decide +kernel
theorem dX11_keep_245 : decode cX11_keep 245 = .ok (.iconst 1, 1) := by decide +kernel
theorem dX11_keep_246 : decode cX11_keep 246 = .ok (.bastore, 1) := by decide +kernel
theorem dX11_keep_247 : decode cX11_keep 247 = .ok (.iconst 1, 1) := by decide +kernel
theorem dX11_keep_248 : decode cX11_keep 248 = .ok (.ireturn, 1) := by decide +kernel
theorem dX11_goBack_0 : decode cX11_goBack 0 = .ok (.iload_n 1, 1) := by decide +kernel
theorem dX11_goBack_1 : decode cX11_goBack 1 = .ok (.i2l, 1) := by decide +kernel
theorem dX11_goBack_2 : decode cX11_goBack 2 = .ok (.lconst 0, 1) := by decide +kernel
theorem dX11_goBack_3 : decode cX11_goBack 3 = .ok (.lconst 1, 1) := by decide +kernel
theorem dX11_goBack_4 : decode cX11_goBack 4 = .ok (.invokestatic 127, 3) := by decide +kernel
theorem dX11_goBack_7 : decode cX11_goBack 7 = .ok (.ifCond .ne 6, 3) := by decide +kernel
theorem dX11_goBack_10 : decode cX11_goBack 10 = .ok (.ldc 248, 2) := by decide +kernel
theorem dX11_goBack_12 : decode cX11_goBack 12 = .ok (.ireturn, 1) := by decide +kernel
theorem dX11_goBack_13 : decode cX11_goBack 13 = .ok (.aload_n 0, 1) := by decide +kernel
theorem dX11_goBack_14 : decode cX11_goBack 14 = .ok (.getfield 121, 3) := by decide +kernel
theorem dX11_goBack_17 : decode cX11_goBack 17 = .ok (.iload_n 1, 1) := by decide +kernel
theorem dX11_goBack_18 : decode cX11_goBack 18 = .ok (.baload, 1) := by decide +kernel
theorem dX11_goBack_19 : decode cX11_goBack 19 = .ok (.ifCond .ne 6, 3) := by decide +kernel
theorem dX11_goBack_22 : decode cX11_goBack 22 = .ok (.ldc 232, 2) := by decide +kernel
theorem dX11_goBack_24 : decode cX11_goBack 24 = .ok (.ireturn, 1) := by decide +kernel
theorem dX11_goBack_25 : decode cX11_goBack 25 = .ok (.bipush 60, 2) := by decide +kernel
theorem dX11_goBack_27 : decode cX11_goBack 27 = .ok (.iload_n 1, 1) := by decide +kernel
theorem dX11_goBack_28 : decode cX11_goBack 28 = .ok (.imul, 1) := by decide +kernel
theorem dX11_goBack_29 : decode cX11_goBack 29 = .ok (.istore_n 2, 1) := by decide +kernel
theorem dX11_goBack_30 : decode cX11_goBack 30 = .ok (.aload_n 0, 1) := by decide +kernel
theorem dX11_goBack_31 : decode cX11_goBack 31 = .ok (.aload_n 0, 1) := by decide +kernel
theorem dX11_goBack_32 : decode cX11_goBack 32 = .ok (.getfield 112, 3) := by decide +kernel
theorem dX11_goBack_35 : decode cX11_goBack 35 = .ok (.iload_n 2, 1) := by decide +kernel
theorem dX11_goBack_36 : decode cX11_goBack 36 = .ok (.iaload, 1) := by decide +kernel
theorem dX11_goBack_37 : decode cX11_goBack 37 = .ok (.putfield 223, 3) := by decide +kernel
theorem dX11_goBack_40 : decode cX11_goBack 40 = .ok (.aload_n 0, 1) := by decide +kernel
theorem dX11_goBack_41 : decode cX11_goBack 41 = .ok (.aload_n 0, 1) := by decide +kernel
theorem dX11_goBack_42 : decode cX11_goBack 42 = .ok (.getfield 112, 3) := by decide +kernel
theorem dX11_goBack_45 : decode cX11_goBack 45 = .ok (.iload_n 2, 1) := by decide +kernel
theorem dX11_goBack_46 : decode cX11_goBack 46 = .ok (.iconst 1, 1) := by decide +kernel
theorem dX11_goBack_47 : decode cX11_goBack 47 = .ok (.iadd, 1) := by decide +kernel
theorem dX11_goBack_48 : decode cX11_goBack 48 = .ok (.iaload, 1) := by decide +kernel
theorem dX11_goBack_49 : decode cX11_goBack 49 = .ok (.putfield 226, 3) := by decide +kernel
theorem dX11_goBack_52 : decode cX11_goBack 52 = .ok (.aload_n 0, 1) := by decide +kernel
theorem dX11_goBack_53 : decode cX11_goBack 53 = .ok (.aload_n 0, 1) := by decide +kernel
theorem dX11_goBack_54 : decode cX11_goBack 54 = .ok (.getfield 112, 3) := by decide +kernel
theorem dX11_goBack_57 : decode cX11_goBack 57 = .ok (.iload_n 2, 1) := by decide +kernel
theorem dX11_goBack_58 : decode cX11_goBack 58 = .ok (.iconst 2, 1) := by decide +kernel
theorem dX11_goBack_59 : decode cX11_goBack 59 = .ok (.iadd, 1) := by decide +kernel
theorem dX11_goBack_60 : decode cX11_goBack 60 = .ok (.iaload, 1) := by decide +kernel
theorem dX11_goBack_61 : decode cX11_goBack 61 = .ok (.putfield 286, 3) := by decide +kernel
theorem dX11_goBack_64 : decode cX11_goBack 64 = .ok (.iconst 0, 1) := by decide +kernel
theorem dX11_goBack_65 : decode cX11_goBack 65 = .ok (.istore_n 3, 1) := by decide +kernel
theorem dX11_goBack_66 : decode cX11_goBack 66 = .ok (.iload_n 3, 1) := by decide +kernel
theorem dX11_goBack_67 : decode cX11_goBack 67 = .ok (.bipush 12, 2) := by decide +kernel
theorem dX11_goBack_69 : decode cX11_goBack 69 = .ok (.if_icmp .ge 68, 3) := by decide +kernel
theorem dX11_goBack_72 : decode cX11_goBack 72 = .ok (.aload_n 0, 1) := by decide +kernel
theorem dX11_goBack_73 : decode cX11_goBack 73 = .ok (.getfield 31, 3) := by decide +kernel
theorem dX11_goBack_76 : decode cX11_goBack 76 = .ok (.iload_n 3, 1) := by decide +kernel
theorem dX11_goBack_77 : decode cX11_goBack 77 = .ok (.aload_n 0, 1) := by decide +kernel
theorem dX11_goBack_78 : decode cX11_goBack 78 = .ok (.getfield 112, 3) := by decide +kernel
theorem dX11_goBack_81 : decode cX11_goBack 81 = .ok (.iload_n 2, 1) := by decide +kernel
theorem dX11_goBack_82 : decode cX11_goBack 82 = .ok (.iconst 3, 1) := by decide +kernel
theorem dX11_goBack_83 : decode cX11_goBack 83 = .ok (.iadd, 1) := by decide +kernel
theorem dX11_goBack_84 : decode cX11_goBack 84 = .ok (.iload_n 3, 1) := by decide +kernel
theorem dX11_goBack_85 : decode cX11_goBack 85 = .ok (.iadd, 1) := by decide +kernel
theorem dX11_goBack_86 : decode cX11_goBack 86 = .ok (.iaload, 1) := by decide +kernel
theorem dX11_goBack_87 : decode cX11_goBack 87 = .ok (.iastore, 1) := by decide +kernel
theorem dX11_goBack_88 : decode cX11_goBack 88 = .ok (.aload_n 0, 1) := by decide +kernel
theorem dX11_goBack_89 : decode cX11_goBack 89 = .ok (.getfield 34, 3) := by decide +kernel
theorem dX11_goBack_92 : decode cX11_goBack 92 = .ok (.iload_n 3, 1) := by decide +kernel
theorem dX11_goBack_93 : decode cX11_goBack 93 = .ok (.aload_n 0, 1) := by decide +kernel
theorem dX11_goBack_94 : decode cX11_goBack 94 = .ok (.getfield 112, 3) := by decide +kernel
theorem dX11_goBack_97 : decode cX11_goBack 97 = .ok (.iload_n 2, 1) := by decide +kernel
theorem dX11_goBack_98 : decode cX11_goBack 98 = .ok (.bipush 15, 2) := by decide +kernel
theorem dX11_goBack_100 : decode cX11_goBack 100 = .ok (.iadd, 1) := by decide +kernel
theorem dX11_goBack_101 : decode cX11_goBack 101 = .ok (.iload_n 3, 1) := by decide +kernel
theorem dX11_goBack_102 : decode cX11_goBack 102 = .ok (.iadd, 1) := by decide +kernel
theorem dX11_goBack_103 : decode cX11_goBack 103 = .ok (.iaload, 1) := by decide +kernel
theorem dX11_goBack_104 : decode cX11_goBack 104 = .ok (.iastore, 1) := by decide +kernel
theorem dX11_goBack_105 : decode cX11_goBack 105 = .ok (.aload_n 0, 1) := by decide +kernel
theorem dX11_goBack_106 : decode cX11_goBack 106 = .ok (.getfield 37, 3) := by decide +kernel
theorem dX11_goBack_109 : decode cX11_goBack 109 = .ok (.iload_n 3, 1) := by decide +kernel
theorem dX11_goBack_110 : decode cX11_goBack 110 = .ok (.aload_n 0, 1) := by decide +kernel
theorem dX11_goBack_111 : decode cX11_goBack 111 = .ok (.getfield 112, 3) := by decide +kernel
theorem dX11_goBack_114 : decode cX11_goBack 114 = .ok (.iload_n 2, 1) := by decide +kernel
theorem dX11_goBack_115 : decode cX11_goBack 115 = .ok (.bipush 27, 2) := by decide +kernel
theorem dX11_goBack_117 : decode cX11_goBack 117 = .ok (.iadd, 1) := by decide +kernel
theorem dX11_goBack_118 : decode cX11_goBack 118 = .ok (.iload_n 3, 1) := by decide +kernel
theorem dX11_goBack_119 : decode cX11_goBack 119 = .ok (.iadd, 1) := by decide +kernel
theorem dX11_goBack_120 : decode cX11_goBack 120 = .ok (.iaload, 1) := by decide +kernel
theorem dX11_goBack_121 : decode cX11_goBack 121 = .ok (.iconst 1, 1) := by decide +kernel
theorem dX11_goBack_122 : decode cX11_goBack 122 = .ok (.if_icmp .ne 7, 3) := by decide +kernel
theorem dX11_goBack_125 : decode cX11_goBack 125 = .ok (.iconst 1, 1) := by decide +kernel
theorem dX11_goBack_126 : decode cX11_goBack 126 = .ok (.goto 4, 3) := by decide +kernel
theorem dX11_goBack_129 : decode cX11_goBack 129 = .ok (.iconst 0, 1) := by decide +kernel
theorem dX11_goBack_130 : decode cX11_goBack 130 = .ok (.bastore, 1) := by decide +kernel
theorem dX11_goBack_131 : decode cX11_goBack 131 = .ok (.iinc 3 1, 3) := by decide +kernel
theorem dX11_goBack_134 : decode cX11_goBack 134 = .ok (.goto (-68), 3) := by decide +kernel
theorem dX11_goBack_137 : decode cX11_goBack 137 = .ok (.iconst 0, 1) := by decide +kernel
theorem dX11_goBack_138 : decode cX11_goBack 138 = .ok (.istore_n 3, 1) := by decide +kernel
theorem dX11_goBack_139 : decode cX11_goBack 139 = .ok (.iload_n 3, 1) := by decide +kernel
theorem dX11_goBack_140 : decode cX11_goBack 140 = .ok (.bipush 6, 2) := by decide +kernel
theorem dX11_goBack_142 : decode cX11_goBack 142 = .ok (.if_icmp .ge 60, 3) := by decide +kernel
theorem dX11_goBack_145 : decode cX11_goBack 145 = .ok (.aload_n 0, 1) := by decide +kernel
theorem dX11_goBack_146 : decode cX11_goBack 146 = .ok (.getfield 41, 3) := by decide +kernel
theorem dX11_goBack_149 : decode cX11_goBack 149 = .ok (.iload_n 3, 1) := by decide +kernel
theorem dX11_goBack_150 : decode cX11_goBack 150 = .ok (.aload_n 0, 1) := by decide +kernel
theorem dX11_goBack_151 : decode cX11_goBack 151 = .ok (.getfield 112, 3) := by decide +kernel
theorem dX11_goBack_154 : decode cX11_goBack 154 = .ok (.iload_n 2, 1) := by decide +kernel
theorem dX11_goBack_155 : decode cX11_goBack 155 = .ok (.bipush 39, 2) := by decide +kernel
theorem dX11_goBack_157 : decode cX11_goBack 157 = .ok (.iadd, 1) := by decide +kernel
theorem dX11_goBack_158 : decode cX11_goBack 158 = .ok (.iload_n 3, 1) := by decide +kernel
theorem dX11_goBack_159 : decode cX11_goBack 159 = .ok (.iadd, 1) := by decide +kernel
theorem dX11_goBack_160 : decode cX11_goBack 160 = .ok (.iaload, 1) := by decide +kernel
theorem dX11_goBack_161 : decode cX11_goBack 161 = .ok (.iastore, 1) := by decide +kernel
theorem dX11_goBack_162 : decode cX11_goBack 162 = .ok (.aload_n 0, 1) := by decide +kernel
theorem dX11_goBack_163 : decode cX11_goBack 163 = .ok (.getfield 44, 3) := by decide +kernel
theorem dX11_goBack_166 : decode cX11_goBack 166 = .ok (.iload_n 3, 1) := by decide +kernel
theorem dX11_goBack_167 : decode cX11_goBack 167 = .ok (.aload_n 0, 1) := by decide +kernel
theorem dX11_goBack_168 : decode cX11_goBack 168 = .ok (.getfield 112, 3) := by decide +kernel
theorem dX11_goBack_171 : decode cX11_goBack 171 = .ok (.iload_n 2, 1) := by decide +kernel
theorem dX11_goBack_172 : decode cX11_goBack 172 = .ok (.bipush 45, 2) := by decide +kernel
theorem dX11_goBack_174 : decode cX11_goBack 174 = .ok (.iadd, 1) := by decide +kernel
theorem dX11_goBack_175 : decode cX11_goBack 175 = .ok (.iload_n 3, 1) := by decide +kernel
theorem dX11_goBack_176 : decode cX11_goBack 176 = .ok (.iadd, 1) := by decide +kernel
theorem dX11_goBack_177 : decode cX11_goBack 177 = .ok (.iaload, 1) := by decide +kernel
theorem dX11_goBack_178 : decode cX11_goBack 178 = .ok (.iastore, 1) := by decide +kernel
theorem dX11_goBack_179 : decode cX11_goBack 179 = .ok (.aload_n 0, 1) := by decide +kernel
theorem dX11_goBack_180 : decode cX11_goBack 180 = .ok (.getfield 47, 3) := by decide +kernel
theorem dX11_goBack_183 : decode cX11_goBack 183 = .ok (.iload_n 3, 1) := by decide +kernel
theorem dX11_goBack_184 : decode cX11_goBack 184 = .ok (.aload_n 0, 1) := by decide +kernel
theorem dX11_goBack_185 : decode cX11_goBack 185 = .ok (.getfield 112, 3) := by decide +kernel
theorem dX11_goBack_188 : decode cX11_goBack 188 = .ok (.iload_n 2, 1) := by decide +kernel
theorem dX11_goBack_189 : decode cX11_goBack 189 = .ok (.bipush 51, 2) := by decide +kernel
theorem dX11_goBack_191 : decode cX11_goBack 191 = .ok (.iadd, 1) := by decide +kernel
theorem dX11_goBack_192 : decode cX11_goBack 192 = .ok (.iload_n 3, 1) := by decide +kernel
theorem dX11_goBack_193 : decode cX11_goBack 193 = .ok (.iadd, 1) := by decide +kernel
theorem dX11_goBack_194 : decode cX11_goBack 194 = .ok (.iaload, 1) := by decide +kernel
theorem dX11_goBack_195 : decode cX11_goBack 195 = .ok (.iastore, 1) := by decide +kernel
theorem dX11_goBack_196 : decode cX11_goBack 196 = .ok (.iinc 3 1, 3) := by decide +kernel
theorem dX11_goBack_199 : decode cX11_goBack 199 = .ok (.goto (-60), 3) := by decide +kernel
theorem dX11_goBack_202 : decode cX11_goBack 202 = .ok (.iconst 0, 1) := by decide +kernel
theorem dX11_goBack_203 : decode cX11_goBack 203 = .ok (.istore_n 3, 1) := by decide +kernel
theorem dX11_goBack_204 : decode cX11_goBack 204 = .ok (.iload_n 3, 1) := by decide +kernel
theorem dX11_goBack_205 : decode cX11_goBack 205 = .ok (.sipush 2400, 3) := by decide +kernel
theorem dX11_goBack_208 : decode cX11_goBack 208 = .ok (.if_icmp .ge 45, 3) := by decide +kernel
theorem dX11_goBack_211 : decode cX11_goBack 211 = .ok (.aload_n 0, 1) := by decide +kernel
theorem dX11_goBack_212 : decode cX11_goBack 212 = .ok (.getfield 50, 3) := by decide +kernel
theorem dX11_goBack_215 : decode cX11_goBack 215 = .ok (.iload_n 3, 1) := by decide +kernel
theorem dX11_goBack_216 : decode cX11_goBack 216 = .ok (.aload_n 0, 1) := by decide +kernel
theorem dX11_goBack_217 : decode cX11_goBack 217 = .ok (.getfield 115, 3) := by decide +kernel
theorem dX11_goBack_220 : decode cX11_goBack 220 = .ok (.sipush 2400, 3) := by decide +kernel
theorem dX11_goBack_223 : decode cX11_goBack 223 = .ok (.iload_n 1, 1) := by decide +kernel
theorem dX11_goBack_224 : decode cX11_goBack 224 = .ok (.imul, 1) := by decide +kernel
theorem dX11_goBack_225 : decode cX11_goBack 225 = .ok (.iload_n 3, 1) := by decide +kernel
theorem dX11_goBack_226 : decode cX11_goBack 226 = .ok (.iadd, 1) := by decide +kernel
theorem dX11_goBack_227 : decode cX11_goBack 227 = .ok (.iaload, 1) := by decide +kernel
theorem dX11_goBack_228 : decode cX11_goBack 228 = .ok (.iastore, 1) := by decide +kernel
theorem dX11_goBack_229 : decode cX11_goBack 229 = .ok (.aload_n 0, 1) := by decide +kernel
theorem dX11_goBack_230 : decode cX11_goBack 230 = .ok (.getfield 53, 3) := by decide +kernel
theorem dX11_goBack_233 : decode cX11_goBack 233 = .ok (.iload_n 3, 1) := by decide +kernel
theorem dX11_goBack_234 : decode cX11_goBack 234 = .ok (.aload_n 0, 1) := by decide +kernel
theorem dX11_goBack_235 : decode cX11_goBack 235 = .ok (.getfield 118, 3) := by decide +kernel
theorem dX11_goBack_238 : decode cX11_goBack 238 = .ok (.sipush 2400, 3) := by decide +kernel
theorem dX11_goBack_241 : decode cX11_goBack 241 = .ok (.iload_n 1, 1) := by decide +kernel
theorem dX11_goBack_242 : decode cX11_goBack 242 = .ok (.imul, 1) := by decide +kernel
theorem dX11_goBack_243 : decode cX11_goBack 243 = .ok (.iload_n 3, 1) := by decide +kernel
theorem dX11_goBack_244 : decode cX11_goBack 244 = .ok (.iadd, 1) := by decide +kernel
theorem dX11_goBack_245 : decode cX11_goBack 245 = .ok (.iaload, 1) := by decide +kernel
theorem dX11_goBack_246 : decode cX11_goBack 246 = .ok (.iastore, 1) := by decide +kernel
theorem dX11_goBack_247 : decode cX11_goBack 247 = .ok (.iinc 3 1, 3) := by decide +kernel
theorem dX11_goBack_250 : decode cX11_goBack 250 = .ok (.goto (-46), 3) := by decide +kernel
theorem dX11_goBack_253 : decode cX11_goBack 253 = .ok (.iconst 1, 1) := by decide +kernel
theorem dX11_goBack_254 : decode cX11_goBack 254 = .ok (.ireturn, 1) := by decide +kernel
