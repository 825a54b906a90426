theorem dX10_init_0 : decode cX10_init 0 = .ok (.aload_n 0, 1) := by decide +kernel
theorem dX10_init_1 : decode cX10_init 1 = .ok (.invokespecial 3, 3) := by decide +kernel
theorem dX10_init_4 : decode cX10_init 4 = .ok (.aload_n 0, 1) := by decide +kernel
theorem dX10_init_5 : decode cX10_init 5 = .ok (.bipush 9, 2) := by decide +kernel
theorem dX10_init_7 : decode cX10_init 7 = .ok (.newarray .int, 2) := by decide +kernel
theorem dX10_init_9 : decode cX10_init 9 = .ok (.dup, 1) := by decide +kernel
theorem dX10_init_10 : decode cX10_init 10 = .ok (.iconst 0, 1) := by decide +kernel
theorem dX10_init_11 : decode cX10_init 11 = .ok (.iconst 0, 1) := by decide +kernel
theorem dX10_init_12 : decode cX10_init 12 = .ok (.iastore, 1) := by decide +kernel
theorem dX10_init_13 : decode cX10_init 13 = .ok (.dup, 1) := by decide +kernel
theorem dX10_init_14 : decode cX10_init 14 = .ok (.iconst 1, 1) := by decide +kernel
theorem dX10_init_15 : decode cX10_init 15 = .ok (.iconst 0, 1) := by decide +kernel
theorem dX10_init_16 : decode cX10_init 16 = .ok (.iastore, 1) := by decide +kernel
theorem dX10_init_17 : decode cX10_init 17 = .ok (.dup, 1) := by decide +kernel
theorem dX10_init_18 : decode cX10_init 18 = .ok (.iconst 2, 1) := by decide +kernel
theorem dX10_init_19 : decode cX10_init 19 = .ok (.iconst 0, 1) := by decide +kernel
theorem dX10_init_20 : decode cX10_init 20 = .ok (.iastore, 1) := by decide +kernel
theorem dX10_init_21 : decode cX10_init 21 = .ok (.dup, 1) := by decide +kernel
theorem dX10_init_22 : decode cX10_init 22 = .ok (.iconst 3, 1) := by decide +kernel
theorem dX10_init_23 : decode cX10_init 23 = .ok (.iconst 0, 1) := by decide +kernel
theorem dX10_init_24 : decode cX10_init 24 = .ok (.iastore, 1) := by decide +kernel
theorem dX10_init_25 : decode cX10_init 25 = .ok (.dup, 1) := by decide +kernel
theorem dX10_init_26 : decode cX10_init 26 = .ok (.iconst 4, 1) := by decide +kernel
theorem dX10_init_27 : decode cX10_init 27 = .ok (.iconst 0, 1) := by decide +kernel
theorem dX10_init_28 : decode cX10_init 28 = .ok (.iastore, 1) := by decide +kernel
theorem dX10_init_29 : decode cX10_init 29 = .ok (.dup, 1) := by decide +kernel
theorem dX10_init_30 : decode cX10_init 30 = .ok (.iconst 5, 1) := by decide +kernel
theorem dX10_init_31 : decode cX10_init 31 = .ok (.iconst 0, 1) := by decide +kernel
theorem dX10_init_32 : decode cX10_init 32 = .ok (.iastore, 1) := by decide +kernel
theorem dX10_init_33 : decode cX10_init 33 = .ok (.dup, 1) := by decide +kernel
theorem dX10_init_34 : decode cX10_init 34 = .ok (.bipush 6, 2) := by decide +kernel
theorem dX10_init_36 : decode cX10_init 36 = .ok (.iconst 0, 1) := by decide +kernel
theorem dX10_init_37 : decode cX10_init 37 = .ok (.iastore, 1) := by decide +kernel
theorem dX10_init_38 : decode cX10_init 38 = .ok (.dup, 1) := by decide +kernel
theorem dX10_init_39 : decode cX10_init 39 = .ok (.bipush 7, 2) := by decide +kernel
theorem dX10_init_41 : decode cX10_init 41 = .ok (.iconst 0, 1) := by decide +kernel
theorem dX10_init_42 : decode cX10_init 42 = .ok (.iastore, 1) := by decide +kernel
theorem dX10_init_43 : decode cX10_init 43 = .ok (.dup, 1) := by decide +kernel
theorem dX10_init_44 : decode cX10_init 44 = .ok (.bipush 8, 2) := by decide +kernel
theorem dX10_init_46 : decode cX10_init 46 = .ok (.iconst (-1), 1) := by decide +kernel
theorem dX10_init_47 : decode cX10_init 47 = .ok (.iastore, 1) := by decide +kernel
theorem dX10_init_48 : decode cX10_init 48 = .ok (.putfield 9, 3) := by decide +kernel
theorem dX10_init_51 : decode cX10_init 51 = .ok (.aload_n 0, 1) := by decide +kernel
theorem dX10_init_52 : decode cX10_init 52 = .ok (.bipush 24, 2) := by decide +kernel
theorem dX10_init_54 : decode cX10_init 54 = .ok (.newarray .int, 2) := by decide +kernel
theorem dX10_init_56 : decode cX10_init 56 = .ok (.putfield 13, 3) := by decide +kernel
theorem dX10_init_59 : decode cX10_init 59 = .ok (.aload_n 0, 1) := by decide +kernel
theorem dX10_init_60 : decode cX10_init 60 = .ok (.iconst 5, 1) := by decide +kernel
theorem dX10_init_61 : decode cX10_init 61 = .ok (.newarray .int, 2) := by decide +kernel
theorem dX10_init_63 : decode cX10_init 63 = .ok (.putfield 16, 3) := by decide +kernel
theorem dX10_init_66 : decode cX10_init 66 = .ok (.aload_n 0, 1) := by decide +kernel
theorem dX10_init_67 : decode cX10_init 67 = .ok (.iconst 5, 1) := by decide +kernel
theorem dX10_init_68 : decode cX10_init 68 = .ok (.newarray .int, 2) := by decide +kernel
theorem dX10_init_70 : decode cX10_init 70 = .ok (.putfield 19, 3) := by decide +kernel
theorem dX10_init_73 : decode cX10_init 73 = .ok (.aload_n 0, 1) := by decide +kernel
theorem dX10_init_74 : decode cX10_init 74 = .ok (.bipush 8, 2) := by decide +kernel
theorem dX10_init_76 : decode cX10_init 76 = .ok (.newarray .int, 2) := by decide +kernel
theorem dX10_init_78 : decode cX10_init 78 = .ok (.putfield 22, 3) := by decide +kernel
theorem dX10_init_81 : decode cX10_init 81 = .ok (.aload_n 0, 1) := by decide +kernel
theorem dX10_init_82 : decode cX10_init 82 = .ok (.iconst 5, 1) := by decide +kernel
theorem dX10_init_83 : decode cX10_init 83 = .ok (.newarray .int, 2) := by decide +kernel
theorem dX10_init_85 : decode cX10_init 85 = .ok (.putfield 25, 3) := by decide +kernel
theorem dX10_init_88 : decode cX10_init 88 = .ok (.aload_n 0, 1) := by decide +kernel
theorem dX10_init_89 : decode cX10_init 89 = .ok (.iconst 5, 1) := by decide +kernel
theorem dX10_init_90 : decode cX10_init 90 = .ok (.newarray .int, 2) := by decide +kernel
theorem dX10_init_92 : decode cX10_init 92 = .ok (.putfield 28, 3) := by decide +kernel
theorem dX10_init_95 : decode cX10_init 95 = .ok (.aload_n 0, 1) := by decide +kernel
theorem dX10_init_96 : decode cX10_init 96 = .ok (.bipush 10, 2) := by decide +kernel
theorem dX10_init_98 : decode cX10_init 98 = .ok (.newarray .int, 2) := by decide +kernel
theorem dX10_init_100 : decode cX10_init 100 = .ok (.putfield 31, 3) := by decide +kernel
theorem dX10_init_103 : decode cX10_init 103 = .ok (.aload_n 0, 1) := by decide +kernel
theorem dX10_init_104 : decode cX10_init 104 = .ok (.bipush 10, 2) := by decide +kernel
theorem dX10_init_106 : decode cX10_init 106 = .ok (.newarray .int, 2) := by decide +kernel
theorem dX10_init_108 : decode cX10_init 108 = .ok (.putfield 34, 3) := by decide +kernel
theorem dX10_init_111 : decode cX10_init 111 = .ok (.aload_n 0, 1) := by decide +kernel
theorem dX10_init_112 : decode cX10_init 112 = .ok (.bipush 10, 2) := by decide +kernel
theorem dX10_init_114 : decode cX10_init 114 = .ok (.newarray .int, 2) := by decide +kernel
theorem dX10_init_116 : decode cX10_init 116 = .ok (.putfield 37, 3) := by decide +kernel
theorem dX10_init_119 : decode cX10_init 119 = .ok (.aload_n 0, 1) := by decide +kernel
theorem dX10_init_120 : decode cX10_init 120 = .ok (.iconst 5, 1) := by decide +kernel
theorem dX10_init_121 : decode cX10_init 121 = .ok (.newarray .int, 2) := by decide +kernel
theorem dX10_init_123 : decode cX10_init 123 = .ok (.putfield 40, 3) := by decide +kernel
theorem dX10_init_126 : decode cX10_init 126 = .ok (.aload_n 0, 1) := by decide +kernel
theorem dX10_init_127 : decode cX10_init 127 = .ok (.iconst 4, 1) := by decide +kernel
theorem dX10_init_128 : decode cX10_init 128 = .ok (.newarray .int, 2) := by decide +kernel
theorem dX10_init_130 : decode cX10_init 130 = .ok (.putfield 43, 3) := by decide +kernel
theorem dX10_init_133 : decode cX10_init 133 = .ok (.aload_n 0, 1) := by decide +kernel
theorem dX10_init_134 : decode cX10_init 134 = .ok (.bipush 24, 2) := by decide +kernel
theorem dX10_init_136 : decode cX10_init 136 = .ok (.newarray .int, 2) := by decide +kernel
theorem dX10_init_138 : decode cX10_init 138 = .ok (.putfield 46, 3) := by decide +kernel
theorem dX10_init_141 : decode cX10_init 141 = .ok (.aload_n 0, 1) := by decide +kernel
theorem dX10_init_142 : decode cX10_init 142 = .ok (.iconst 5, 1) := by decide +kernel
theorem dX10_init_143 : decode cX10_init 143 = .ok (.newarray .int, 2) := by decide +kernel
theorem dX10_init_145 : decode cX10_init 145 = .ok (.putfield 49, 3) := by decide +kernel
theorem dX10_init_148 : decode cX10_init 148 = .ok (.aload_n 0, 1) := by decide +kernel
theorem dX10_init_149 : decode cX10_init 149 = .ok (.iconst 5, 1) := by decide +kernel
theorem dX10_init_150 : decode cX10_init 150 = .ok (.newarray .int, 2) := by decide +kernel
theorem dX10_init_152 : decode cX10_init 152 = .ok (.putfield 52, 3) := by decide +kernel
theorem dX10_init_155 : decode cX10_init 155 = .ok (.aload_n 0, 1) := by decide +kernel
theorem dX10_init_156 : decode cX10_init 156 = .ok (.iconst 5, 1) := by decide +kernel
theorem dX10_init_157 : decode cX10_init 157 = .ok (.newarray .int, 2) := by decide +kernel
theorem dX10_init_159 : decode cX10_init 159 = .ok (.putfield 55, 3) := by decide +kernel
theorem dX10_init_162 : decode cX10_init 162 = .ok (.aload_n 0, 1) := by decide +kernel
theorem dX10_init_163 : decode cX10_init 163 = .ok (.bipush 11, 2) := by decide +kernel
theorem dX10_init_165 : decode cX10_init 165 = .ok (.putfield 58, 3) := by decide +kernel
theorem dX10_init_168 : decode cX10_init 168 = .ok (.aload_n 0, 1) := by decide +kernel
theorem dX10_init_169 : decode cX10_init 169 = .ok (.sipush 400, 3) := by decide +kernel
theorem dX10_init_172 : decode cX10_init 172 = .ok (.newarray .byte, 2) := by decide +kernel
theorem dX10_init_174 : decode cX10_init 174 = .ok (.putfield 62, 3) := by decide +kernel
theorem dX10_init_177 : decode cX10_init 177 = .ok (.aload_n 0, 1) := by decide +kernel
theorem dX10_init_178 : decode cX10_init 178 = .ok (.sipush 1800, 3) := by decide +kernel
theorem dX10_init_181 : decode cX10_init 181 = .ok (.newarray .int, 2) := by decide +kernel
theorem dX10_init_183 : decode cX10_init 183 = .ok (.putfield 66, 3) := by decide +kernel
theorem dX10_init_186 : decode cX10_init 186 = .ok (.aload_n 0, 1) := by decide +kernel
theorem dX10_init_187 : decode cX10_init 187 = .ok (.sipush 1800, 3) := by decide +kernel
theorem dX10_init_190 : decode cX10_init 190 = .ok (.newarray .int, 2) := by decide +kernel
theorem dX10_init_192 : decode cX10_init 192 = .ok (.putfield 69, 3) := by decide +kernel
theorem dX10_init_195 : decode cX10_init 195 = .ok (.aload_n 0, 1) := by decide +kernel
theorem dX10_init_196 : decode cX10_init 196 = .ok (.bipush 6, 2) := by decide +kernel
theorem dX10_init_198 : decode cX10_init 198 = .ok (.newarray .int, 2) := by decide +kernel
theorem dX10_init_200 : decode cX10_init 200 = .ok (.putfield 72, 3) := by decide +kernel
theorem dX10_init_203 : decode cX10_init 203 = .ok (.aload_n 0, 1) := by decide +kernel
theorem dX10_init_204 : decode cX10_init 204 = .ok (.bipush 72, 2) := by decide +kernel
theorem dX10_init_206 : decode cX10_init 206 = .ok (.newarray .int, 2) := by decide +kernel
theorem dX10_init_208 : decode cX10_init 208 = .ok (.putfield 75, 3) := by decide +kernel
theorem dX10_init_211 : decode cX10_init 211 = .ok (.aload_n 0, 1) := by decide +kernel
theorem dX10_init_212 : decode cX10_init 212 = .ok (.bipush 72, 2) := by decide +kernel
theorem dX10_init_214 : decode cX10_init 214 = .ok (.newarray .int, 2) := by decide +kernel
theorem dX10_init_216 : decode cX10_init 216 = .ok (.putfield 78, 3) := by decide +kernel
theorem dX10_init_219 : decode cX10_init 219 = .ok (.aload_n 0, 1) := by decide +kernel
theorem dX10_init_220 : decode cX10_init 220 = .ok (.bipush 72, 2) := by decide +kernel
theorem dX10_init_222 : decode cX10_init 222 = .ok (.newarray .int, 2) := by decide +kernel
theorem dX10_init_224 : decode cX10_init 224 = .ok (.putfield 81, 3) := by decide +kernel
theorem dX10_init_227 : decode cX10_init 227 = .ok (.aload_n 0, 1) := by decide +kernel
theorem dX10_init_228 : decode cX10_init 228 = .ok (.sipush 402, 3) := by decide +kernel
theorem dX10_init_231 : decode cX10_init 231 = .ok (.newarray .int, 2) := by decide +kernel
theorem dX10_init_233 : decode cX10_init 233 = .ok (.putfield 84, 3) := by decide +kernel
theorem dX10_init_236 : decode cX10_init 236 = .ok (.aload_n 0, 1) := by decide +kernel
theorem dX10_init_237 : decode cX10_init 237 = .ok (.bipush 11, 2) := by decide +kernel
theorem dX10_init_239 : decode cX10_init 239 = .ok (.newarray .long, 2) := by decide +kernel
theorem dX10_init_241 : decode cX10_init 241 = .ok (.putfield 87, 3) := by decide +kernel
theorem dX10_init_244 : decode cX10_init 244 = .ok (.aload_n 0, 1) := by decide +kernel
theorem dX10_init_245 : decode cX10_init 245 = .ok (.sipush 300, 3) := by decide +kernel
theorem dX10_init_248 : decode cX10_init 248 = .ok (.newarray .long, 2) := by decide +kernel
theorem dX10_init_250 : decode cX10_init 250 = .ok (.putfield 91, 3) := by decide +kernel
theorem dX10_init_253 : decode cX10_init 253 = .ok (.aload_n 0, 1) := by decide +kernel
theorem dX10_init_254 : decode cX10_init 254 = .ok (.iconst 5, 1) := by decide +kernel
theorem dX10_init_255 : decode cX10_init 255 = .ok (.newarray .int, 2) := by decide +kernel
theorem dX10_init_257 : decode cX10_init 257 = .ok (.putfield 94, 3) := by decide +kernel
theorem dX10_init_260 : decode cX10_init 260 = .ok (.aload_n 0, 1) := by decide +kernel
theorem dX10_init_261 : decode cX10_init 261 = .ok (.iconst (-1), 1) := by decide +kernel
theorem dX10_init_262 : decode cX10_init 262 = .ok (.putfield 97, 3) := by decide +kernel
theorem dX10_init_265 : decode cX10_init 265 = .ok (.aload_n 0, 1) := by decide +kernel
theorem dX10_init_266 : decode cX10_init 266 = .ok (.sipush 400, 3) := by decide +kernel
theorem dX10_init_269 : decode cX10_init 269 = .ok (.newarray .int, 2) := by decide +kernel
theorem dX10_init_271 : decode cX10_init 271 = .ok (.putfield 100, 3) := by decide +kernel
theorem dX10_init_274 : decode cX10_init 274 = .ok (.aload_n 0, 1) := by decide +kernel
theorem dX10_init_275 : decode cX10_init 275 = .ok (.iconst 1, 1) := by decide +kernel
theorem dX10_init_276 : decode cX10_init 276 = .ok (.newarray .int, 2) := by decide +kernel
theorem dX10_init_278 : decode cX10_init 278 = .ok (.putfield 103, 3) := by decide +kernel
theorem dX10_init_281 : decode cX10_init 281 = .ok (.aload_n 0, 1) := by decide +kernel
theorem dX10_init_282 : decode cX10_init 282 = .ok (.iconst 4, 1) := by decide +kernel
theorem dX10_init_283 : decode cX10_init 283 = .ok (.newarray .int, 2) := by decide +kernel
theorem dX10_init_285 : decode cX10_init 285 = .ok (.putfield 106, 3) := by decide +kernel
theorem dX10_init_288 : decode cX10_init 288 = .ok (.aload_n 0, 1) := by decide +kernel
theorem dX10_init_289 : decode cX10_init 289 = .ok (.iconst 4, 1) := by decide +kernel
theorem dX10_init_290 : decode cX10_init 290 = .ok (.newarray .int, 2) := by decide +kernel
theorem dX10_init_292 : decode cX10_init 292 = .ok (.putfield 109, 3) := by decide +kernel
theorem dX10_init_295 : decode cX10_init 295 = .ok (.aload_n 0, 1) := by decide +kernel
theorem dX10_init_296 : decode cX10_init 296 = .ok (.sipush 729, 3) := by decide +kernel
theorem dX10_init_299 : decode cX10_init 299 = .ok (.newarray .int, 2) := by decide +kernel
theorem dX10_init_301 : decode cX10_init 301 = .ok (.putfield 112, 3) := by decide +kernel
theorem dX10_init_304 : decode cX10_init 304 = .ok (.aload_n 0, 1) := by decide +kernel
theorem dX10_init_305 : decode cX10_init 305 = .ok (.sipush 305, 3) := by decide +kernel
theorem dX10_init_308 : decode cX10_init 308 = .ok (.newarray .int, 2) := by decide +kernel
theorem dX10_init_310 : decode cX10_init 310 = .ok (.putfield 115, 3) := by decide +kernel
theorem dX10_init_313 : decode cX10_init 313 = .ok (.aload_n 0, 1) := by decide +kernel
theorem dX10_init_314 : decode cX10_init 314 = .ok (.bipush 35, 2) := by decide +kernel
theorem dX10_init_316 : decode cX10_init 316 = .ok (.newarray .int, 2) := by decide +kernel
theorem dX10_init_318 : decode cX10_init 318 = .ok (.putfield 118, 3) := by decide +kernel
theorem dX10_init_321 : decode cX10_init 321 = .ok (.aload_n 0, 1) := by decide +kernel
theorem dX10_init_322 : decode cX10_init 322 = .ok (.sipush 3000, 3) := by decide +kernel
theorem dX10_init_325 : decode cX10_init 325 = .ok (.newarray .int, 2) := by decide +kernel
theorem dX10_init_327 : decode cX10_init 327 = .ok (.putfield 121, 3) := by decide +kernel
theorem dX10_init_330 : decode cX10_init 330 = .ok (.aload_n 0, 1) := by decide +kernel
theorem dX10_init_331 : decode cX10_init 331 = .ok (.iconst 4, 1) := by decide +kernel
theorem dX10_init_332 : decode cX10_init 332 = .ok (.newarray .boolean, 2) := by decide +kernel
theorem dX10_init_334 : decode cX10_init 334 = .ok (.putfield 124, 3) := by decide +kernel
theorem dX10_init_337 : decode cX10_init 337 = .ok (.return_, 1) := by decide +kernel
theorem dX10_in_0 : decode cX10_in 0 = .ok (.lload_n 0, 1) := by decide +kernel
theorem dX10_in_1 : decode cX10_in 1 = .ok (.lload_n 2, 1) := by decide +kernel
theorem dX10_in_2 : decode cX10_in 2 = .ok (.lcmp, 1) := by decide +kernel
theorem dX10_in_3 : decode cX10_in 3 = .ok (.ifCond .lt 14, 3) := by decide +kernel
theorem dX10_in_6 : decode cX10_in 6 = .ok (.lload_n 0, 1) := by decide +kernel
theorem dX10_in_7 : decode cX10_in 7 = .ok (.lload 4, 2) := by decide +kernel
theorem dX10_in_9 : decode cX10_in 9 = .ok (.lcmp, 1) := by decide +kernel
theorem dX10_in_10 : decode cX10_in 10 = .ok (.ifCond .gt 7, 3) := by decide +kernel
theorem dX10_in_13 : decode cX10_in 13 = .ok (.iconst 1, 1) := by decide +kernel
theorem dX10_in_14 : decode cX10_in 14 = .ok (.goto 4, 3) := by decide +kernel
theorem dX10_in_17 : decode cX10_in 17 = .ok (.iconst 0, 1) := by decide +kernel
theorem dX10_in_18 : decode cX10_in 18 = .ok (.ireturn, 1) := by decide +kernel
theorem dX10_bits_0 : decode cX10_bits 0 = .ok (.iconst 0, 1) := by decide +kernel
theorem dX10_bits_1 : decode cX10_bits 1 = .ok (.istore_n 1, 1) := by decide +kernel
theorem dX10_bits_2 : decode cX10_bits 2 = .ok (.iconst 0, 1) := by decide +kernel
theorem dX10_bits_3 : decode cX10_bits 3 = .ok (.istore_n 2, 1) := by decide +kernel
theorem dX10_bits_4 : decode cX10_bits 4 = .ok (.iload_n 2, 1) := by decide +kernel
theorem dX10_bits_5 : decode cX10_bits 5 = .ok (.bipush 16, 2) := by decide +kernel
theorem dX10_bits_7 : decode cX10_bits 7 = .ok (.if_icmp .ge 17, 3) := by decide +kernel
theorem dX10_bits_10 : decode cX10_bits 10 = .ok (.iload_n 1, 1) := by decide +kernel
theorem dX10_bits_11 : decode cX10_bits 11 = .ok (.iload_n 0, 1) := by decide +kernel
theorem dX10_bits_12 : decode cX10_bits 12 = .ok (.iload_n 2, 1) := by decide +kernel
theorem dX10_bits_13 : decode cX10_bits 13 = .ok (.ishr, 1) := by decide +kernel
theorem dX10_bits_14 : decode cX10_bits 14 = .ok (.iconst 1, 1) := by decide +kernel
theorem dX10_bits_15 : decode cX10_bits 15 = .ok (.iand, 1) := by decide +kernel
theorem dX10_bits_16 : decode cX10_bits 16 = .ok (.iadd, 1) := by decide +kernel
theorem dX10_bits_17 : decode cX10_bits 17 = .ok (.istore_n 1, 1) := by decide +kernel
theorem dX10_bits_18 : decode cX10_bits 18 = .ok (.iinc 2 1, 3) := by decide +kernel
theorem dX10_bits_21 : decode cX10_bits 21 = .ok (.goto (-17), 3) := by decide +kernel
theorem dX10_bits_24 : decode cX10_bits 24 = .ok (.iload_n 1, 1) := by decide +kernel
theorem dX10_bits_25 : decode cX10_bits 25 = .ok (.ireturn, 1) := by decide +kernel
theorem dX10_has_0 : decode cX10_has 0 = .ok (.iload_n 0, 1) := by decide +kernel
theorem dX10_has_1 : decode cX10_has 1 = .ok (.iload_n 1, 1) := by decide +kernel
theorem dX10_has_2 : decode cX10_has 2 = .ok (.ishr, 1) := by decide +kernel
theorem dX10_has_3 : decode cX10_has 3 = .ok (.iconst 1, 1) := by decide +kernel
theorem dX10_has_4 : decode cX10_has 4 = .ok (.iand, 1) := by decide +kernel
theorem dX10_has_5 : decode cX10_has 5 = .ok (.iconst 1, 1) := by decide +kernel
theorem dX10_has_6 : decode cX10_has 6 = .ok (.if_icmp .ne 7, 3) := by decide +kernel
theorem dX10_has_9 : decode cX10_has 9 = .ok (.iconst 1, 1) := by decide +kernel
theorem dX10_has_10 : decode cX10_has 10 = .ok (.goto 4, 3) := by decide +kernel
theorem dX10_has_13 : decode cX10_has 13 = .ok (.iconst 0, 1) := by decide +kernel
theorem dX10_has_14 : decode cX10_has 14 = .ok (.ireturn, 1) := by decide +kernel
theorem dX10_isBar_0 : decode cX10_isBar 0 = .ok (.aload_n 0, 1) := by decide +kernel
theorem dX10_isBar_1 : decode cX10_isBar 1 = .ok (.getfield 9, 3) := by decide +kernel
theorem dX10_isBar_4 : decode cX10_isBar 4 = .ok (.iconst 0, 1) := by decide +kernel
theorem dX10_isBar_5 : decode cX10_isBar 5 = .ok (.iaload, 1) := by decide +kernel
theorem dX10_isBar_6 : decode cX10_isBar 6 = .ok (.ifCond .le 7, 3) := by decide +kernel
theorem dX10_isBar_9 : decode cX10_isBar 9 = .ok (.iconst 1, 1) := by decide +kernel
theorem dX10_isBar_10 : decode cX10_isBar 10 = .ok (.goto 4, 3) := by decide +kernel
theorem dX10_isBar_13 : decode cX10_isBar 13 = .ok (.iconst 0, 1) := by decide +kernel
theorem dX10_isBar_14 : decode cX10_isBar 14 = .ok (.ireturn, 1) := by decide +kernel
theorem dX10_isJoke_0 : decode cX10_isJoke 0 = .ok (.iload_n 1, 1) := by decide +kernel
theorem dX10_isJoke_1 : decode cX10_isJoke 1 = .ok (.i2l, 1) := by decide +kernel
theorem dX10_isJoke_2 : decode cX10_isJoke 2 = .ok (.lconst 0, 1) := by decide +kernel
theorem dX10_isJoke_3 : decode cX10_isJoke 3 = .ok (.aload_n 0, 1) := by decide +kernel
theorem dX10_isJoke_4 : decode cX10_isJoke 4 = .ok (.getfield 9, 3) := by decide +kernel
theorem dX10_isJoke_7 : decode cX10_isJoke 7 = .ok (.iconst 2, 1) := by decide +kernel
theorem dX10_isJoke_8 : decode cX10_isJoke 8 = .ok (.iaload, 1) := by decide +kernel
theorem dX10_isJoke_9 : decode cX10_isJoke 9 = .ok (.iconst 1, 1) := by decide +kernel
theorem dX10_isJoke_10 : decode cX10_isJoke 10 = .ok (.isub, 1) := by decide +kernel
theorem dX10_isJoke_11 : decode cX10_isJoke 11 = .ok (.i2l, 1) := by decide +kernel
theorem dX10_isJoke_12 : decode cX10_isJoke 12 = .ok (.invokestatic 131, 3) := by decide +kernel
theorem dX10_isJoke_15 : decode cX10_isJoke 15 = .ok (.ireturn, 1) := by decide +kernel
theorem dX10_isShip_0 : decode cX10_isShip 0 = .ok (.iload_n 1, 1) := by decide +kernel
theorem dX10_isShip_1 : decode cX10_isShip 1 = .ok (.i2l, 1) := by decide +kernel
theorem dX10_isShip_2 : decode cX10_isShip 2 = .ok (.lconst 0, 1) := by decide +kernel
theorem dX10_isShip_3 : decode cX10_isShip 3 = .ok (.aload_n 0, 1) := by decide +kernel
theorem dX10_isShip_4 : decode cX10_isShip 4 = .ok (.getfield 9, 3) := by decide +kernel
theorem dX10_isShip_7 : decode cX10_isShip 7 = .ok (.iconst 3, 1) := by decide +kernel
theorem dX10_isShip_8 : decode cX10_isShip 8 = .ok (.iaload, 1) := by decide +kernel
theorem dX10_isShip_9 : decode cX10_isShip 9 = .ok (.iconst 1, 1) := by decide +kernel
theorem dX10_isShip_10 : decode cX10_isShip 10 = .ok (.isub, 1) := by decide +kernel
theorem dX10_isShip_11 : decode cX10_isShip 11 = .ok (.i2l, 1) := by decide +kernel
theorem dX10_isShip_12 : decode cX10_isShip 12 = .ok (.invokestatic 131, 3) := by decide +kernel
theorem dX10_isShip_15 : decode cX10_isShip 15 = .ok (.ireturn, 1) := by decide +kernel
theorem dX10_waits_0 : decode cX10_waits 0 = .ok (.aload_n 0, 1) := by decide +kernel
theorem dX10_waits_1 : decode cX10_waits 1 = .ok (.iload_n 1, 1) := by decide +kernel
theorem dX10_waits_2 : decode cX10_waits 2 = .ok (.invokevirtual 135, 3) := by decide +kernel
theorem dX10_waits_5 : decode cX10_waits 5 = .ok (.ifCond .eq 17, 3) := by decide +kernel
theorem dX10_waits_8 : decode cX10_waits 8 = .ok (.aload_n 0, 1) := by decide +kernel
theorem dX10_waits_9 : decode cX10_waits 9 = .ok (.getfield 28, 3) := by decide +kernel
theorem dX10_waits_12 : decode cX10_waits 12 = .ok (.iload_n 1, 1) := by decide +kernel
theorem dX10_waits_13 : decode cX10_waits 13 = .ok (.iaload, 1) := by decide +kernel
theorem dX10_waits_14 : decode cX10_waits 14 = .ok (.iconst (-1), 1) := by decide +kernel
theorem dX10_waits_15 : decode cX10_waits 15 = .ok (.if_icmp .ne 7, 3) := by decide +kernel
theorem dX10_waits_18 : decode cX10_waits 18 = .ok (.iconst 1, 1) := by decide +kernel
theorem dX10_waits_19 : decode cX10_waits 19 = .ok (.goto 4, 3) := by decide +kernel
theorem dX10_waits_22 : decode cX10_waits 22 = .ok (.iconst 0, 1) := by decide +kernel
theorem dX10_waits_23 : decode cX10_waits 23 = .ok (.ireturn, 1) := by decide +kernel
theorem dX10_feed_0 : decode cX10_feed 0 = .ok (.aload_n 0, 1) := by decide +kernel
theorem dX10_feed_1 : decode cX10_feed 1 = .ok (.getfield 139, 3) := by decide +kernel
theorem dX10_feed_4 : decode cX10_feed 4 = .ok (.bipush 20, 2) := by decide +kernel
theorem dX10_feed_6 : decode cX10_feed 6 = .ok (.iadd, 1) := by decide +kernel
theorem dX10_feed_7 : decode cX10_feed 7 = .ok (.sipush 400, 3) := by decide +kernel
theorem dX10_feed_10 : decode cX10_feed 10 = .ok (.if_icmp .le 5, 3) := by decide +kernel
theorem dX10_feed_13 : decode cX10_feed 13 = .ok (.iconst (-1), 1) := by decide +kernel
theorem dX10_feed_14 : decode cX10_feed 14 = .ok (.ireturn, 1) := by decide +kernel
theorem dX10_feed_15 : decode cX10_feed 15 = .ok (.aload_n 0, 1) := by decide +kernel
theorem dX10_feed_16 : decode cX10_feed 16 = .ok (.iload_n 1, 1) := by decide +kernel
theorem dX10_feed_17 : decode cX10_feed 17 = .ok (.invokevirtual 142, 3) := by decide +kernel
theorem dX10_feed_20 : decode cX10_feed 20 = .ok (.aload_n 0, 1) := by decide +kernel
theorem dX10_feed_21 : decode cX10_feed 21 = .ok (.iload_n 2, 1) := by decide +kernel
theorem dX10_feed_22 : decode cX10_feed 22 = .ok (.invokevirtual 142, 3) := by decide +kernel
theorem dX10_feed_25 : decode cX10_feed 25 = .ok (.aload_n 0, 1) := by decide +kernel
theorem dX10_feed_26 : decode cX10_feed 26 = .ok (.iload_n 3, 1) := by decide +kernel
theorem dX10_feed_27 : decode cX10_feed 27 = .ok (.invokevirtual 142, 3) := by decide +kernel
theorem dX10_feed_30 : decode cX10_feed 30 = .ok (.aload_n 0, 1) := by decide +kernel
theorem dX10_feed_31 : decode cX10_feed 31 = .ok (.iload 4, 2) := by decide +kernel
theorem dX10_feed_33 : decode cX10_feed 33 = .ok (.invokevirtual 142, 3) := by decide +kernel
theorem dX10_feed_36 : decode cX10_feed 36 = .ok (.aload_n 0, 1) := by decide +kernel
theorem dX10_feed_37 : decode cX10_feed 37 = .ok (.iload 5, 2) := by decide +kernel
theorem dX10_feed_39 : decode cX10_feed 39 = .ok (.invokevirtual 142, 3) := by decide +kernel
theorem dX10_feed_42 : decode cX10_feed 42 = .ok (.aload_n 0, 1) := by decide +kernel
theorem dX10_feed_43 : decode cX10_feed 43 = .ok (.getfield 139, 3) := by decide +kernel
theorem dX10_feed_46 : decode cX10_feed 46 = .ok (.ireturn, 1) := by decide +kernel
theorem dX10_put_0 : decode cX10_put 0 = .ok (.bipush 24, 2) := by decide +kernel
theorem dX10_put_2 : decode cX10_put 2 = .ok (.istore_n 2, 1) := by decide +kernel
theorem dX10_put_3 : decode cX10_put 3 = .ok (.iload_n 2, 1) := by decide +kernel
theorem dX10_put_4 : decode cX10_put 4 = .ok (.ifCond .lt 32, 3) := by decide +kernel
theorem dX10_put_7 : decode cX10_put 7 = .ok (.aload_n 0, 1) := by decide +kernel
theorem dX10_put_8 : decode cX10_put 8 = .ok (.getfield 62, 3) := by decide +kernel
theorem dX10_put_11 : decode cX10_put 11 = .ok (.aload_n 0, 1) := by decide +kernel
theorem dX10_put_12 : decode cX10_put 12 = .ok (.getfield 139, 3) := by decide +kernel
theorem dX10_put_15 : decode cX10_put 15 = .ok (.iload_n 1, 1) := by decide +kernel
theorem dX10_put_16 : decode cX10_put 16 = .ok (.iload_n 2, 1) := by decide +kernel
theorem dX10_put_17 : decode cX10_put 17 = .ok (.ishr, 1) := by decide +kernel
theorem dX10_put_18 : decode cX10_put 18 = .ok (.i2b, 1) := by decide +kernel
theorem dX10_put_19 : decode cX10_put 19 = .ok (.bastore, 1) := by decide +kernel
theorem dX10_put_20 : decode cX10_put 20 = .ok (.aload_n 0, 1) := by decide +kernel
theorem dX10_put_21 : decode cX10_put 21 = .ok (.dup, 1) := by decide +kernel
theorem dX10_put_22 : decode cX10_put 22 = .ok (.getfield 139, 3) := by decide +kernel
theorem dX10_put_25 : decode cX10_put 25 = .ok (.iconst 1, 1) := by decide +kernel
theorem dX10_put_26 : decode cX10_put 26 = .ok (.iadd, 1) := by decide +kernel
theorem dX10_put_27 : decode cX10_put 27 = .ok (.putfield 139, 3) := by decide +kernel
theorem dX10_put_30 : decode cX10_put 30 = .ok (.iinc 2 (-8), 3) := by decide +kernel
theorem dX10_put_33 : decode cX10_put 33 = .ok (.goto (-30), 3) := by decide +kernel
theorem dX10_put_36 : decode cX10_put 36 = .ok (.return_, 1) := by decide +kernel
theorem dX10_end_0 : decode cX10_end 0 = .ok (.iload_n 1, 1) := by decide +kernel
theorem dX10_end_1 : decode cX10_end 1 = .ok (.ifCond .lt 11, 3) := by decide +kernel
theorem dX10_end_4 : decode cX10_end 4 = .ok (.iload_n 1, 1) := by decide +kernel
theorem dX10_end_5 : decode cX10_end 5 = .ok (.aload_n 0, 1) := by decide +kernel
theorem dX10_end_6 : decode cX10_end 6 = .ok (.getfield 139, 3) := by decide +kernel
theorem dX10_end_9 : decode cX10_end 9 = .ok (.if_icmp .le 5, 3) := by decide +kernel
theorem dX10_end_12 : decode cX10_end 12 = .ok (.iconst (-1), 1) := by decide +kernel
theorem dX10_end_13 : decode cX10_end 13 = .ok (.ireturn, 1) := by decide +kernel
theorem dX10_end_14 : decode cX10_end 14 = .ok (.aload_n 0, 1) := by decide +kernel
theorem dX10_end_15 : decode cX10_end 15 = .ok (.iload_n 1, 1) := by decide +kernel
theorem dX10_end_16 : decode cX10_end 16 = .ok (.putfield 139, 3) := by decide +kernel
theorem dX10_end_19 : decode cX10_end 19 = .ok (.iload_n 1, 1) := by decide +kernel
theorem dX10_end_20 : decode cX10_end 20 = .ok (.ireturn, 1) := by decide +kernel
theorem dX10_wordOf_0 : decode cX10_wordOf 0 = .ok (.iload_n 0, 1) := by decide +kernel
theorem dX10_wordOf_1 : decode cX10_wordOf 1 = .ok (.tableswitch 85 0 9 #[55, 58, 61, 64, 67, 70, 73, 76, 79, 82], 55) := by decide +kernel
theorem dX10_wordOf_56 : decode cX10_wordOf 56 = .ok (.ldc 146, 2) := by decide +kernel
theorem dX10_wordOf_58 : decode cX10_wordOf 58 = .ok (.areturn, 1) := by decide +kernel
theorem dX10_wordOf_59 : decode cX10_wordOf 59 = .ok (.ldc 148, 2) := by decide +kernel
theorem dX10_wordOf_61 : decode cX10_wordOf 61 = .ok (.areturn, 1) := by decide +kernel
theorem dX10_wordOf_62 : decode cX10_wordOf 62 = .ok (.ldc 150, 2) := by decide +kernel
theorem dX10_wordOf_64 : decode cX10_wordOf 64 = .ok (.areturn, 1) := by decide +kernel
theorem dX10_wordOf_65 : decode cX10_wordOf 65 = .ok (.ldc 151, 2) := by decide +kernel
theorem dX10_wordOf_67 : decode cX10_wordOf 67 = .ok (.areturn, 1) := by decide +kernel
theorem dX10_wordOf_68 : decode cX10_wordOf 68 = .ok (.ldc 152, 2) := by decide +kernel
theorem dX10_wordOf_70 : decode cX10_wordOf 70 = .ok (.areturn, 1) := by decide +kernel
theorem dX10_wordOf_71 : decode cX10_wordOf 71 = .ok (.ldc 154, 2) := by decide +kernel
theorem dX10_wordOf_73 : decode cX10_wordOf 73 = .ok (.areturn, 1) := by decide +kernel
theorem dX10_wordOf_74 : decode cX10_wordOf 74 = .ok (.ldc 156, 2) := by decide +kernel
theorem dX10_wordOf_76 : decode cX10_wordOf 76 = .ok (.areturn, 1) := by decide +kernel
theorem dX10_wordOf_77 : decode cX10_wordOf 77 = .ok (.ldc 158, 2) := by decide +kernel
theorem dX10_wordOf_79 : decode cX10_wordOf 79 = .ok (.areturn, 1) := by decide +kernel
theorem dX10_wordOf_80 : decode cX10_wordOf 80 = .ok (.ldc 160, 2) := by decide +kernel
theorem dX10_wordOf_82 : decode cX10_wordOf 82 = .ok (.areturn, 1) := by decide +kernel
theorem dX10_wordOf_83 : decode cX10_wordOf 83 = .ok (.ldc 162, 2) := by decide +kernel
theorem dX10_wordOf_85 : decode cX10_wordOf 85 = .ok (.areturn, 1) := by decide +kernel
theorem dX10_wordOf_86 : decode cX10_wordOf 86 = .ok (.ldc 163, 2) := by decide +kernel
theorem dX10_wordOf_88 : decode cX10_wordOf 88 = .ok (.areturn, 1) := by decide +kernel
theorem dX10_fails_0 : decode cX10_fails 0 = .ok (.aload_n 0, 1) := by decide +kernel
theorem dX10_fails_1 : decode cX10_fails 1 = .ok (.aload_n 0, 1) := by decide +kernel
theorem dX10_fails_2 : decode cX10_fails 2 = .ok (.getfield 165, 3) := by decide +kernel
theorem dX10_fails_5 : decode cX10_fails 5 = .ok (.ifCond .ne 14, 3) := by decide +kernel
theorem dX10_fails_8 : decode cX10_fails 8 = .ok (.iconst 1, 1) := by decide +kernel
theorem dX10_fails_9 : decode cX10_fails 9 = .ok (.bipush 8, 2) := by decide +kernel
theorem dX10_fails_11 : decode cX10_fails 11 = .ok (.iload_n 2, 1) := by decide +kernel
theorem dX10_fails_12 : decode cX10_fails 12 = .ok (.imul, 1) := by decide +kernel
theorem dX10_fails_13 : decode cX10_fails 13 = .ok (.iadd, 1) := by decide +kernel
theorem dX10_fails_14 : decode cX10_fails 14 = .ok (.iload_n 1, 1) := by decide +kernel
theorem dX10_fails_15 : decode cX10_fails 15 = .ok (.iadd, 1) := by decide +kernel
theorem dX10_fails_16 : decode cX10_fails 16 = .ok (.goto 7, 3) := by decide +kernel
theorem dX10_fails_19 : decode cX10_fails 19 = .ok (.aload_n 0, 1) := by decide +kernel
theorem dX10_fails_20 : decode cX10_fails 20 = .ok (.getfield 165, 3) := by decide +kernel
theorem dX10_fails_23 : decode cX10_fails 23 = .ok (.putfield 165, 3) := by decide +kernel
theorem dX10_fails_26 : decode cX10_fails 26 = .ok (.return_, 1) := by decide +kernel
theorem dX10_sign_0 : decode cX10_sign 0 = .ok (.aload_n 0, 1) := by decide +kernel
theorem dX10_sign_1 : decode cX10_sign 1 = .ok (.getfield 168, 3) := by decide +kernel
theorem dX10_sign_4 : decode cX10_sign 4 = .ok (.aload_n 0, 1) := by decide +kernel
theorem dX10_sign_5 : decode cX10_sign 5 = .ok (.getfield 139, 3) := by decide +kernel
theorem dX10_sign_8 : decode cX10_sign 8 = .ok (.if_icmp .ge 19, 3) := by decide +kernel
theorem dX10_sign_11 : decode cX10_sign 11 = .ok (.aload_n 0, 1) := by decide +kernel
theorem dX10_sign_12 : decode cX10_sign 12 = .ok (.getfield 62, 3) := by decide +kernel
theorem dX10_sign_15 : decode cX10_sign 15 = .ok (.aload_n 0, 1) := by decide +kernel
theorem dX10_sign_16 : decode cX10_sign 16 = .ok (.getfield 168, 3) := by decide +kernel
theorem dX10_sign_19 : decode cX10_sign 19 = .ok (.baload, 1) := by decide +kernel
theorem dX10_sign_20 : decode cX10_sign 20 = .ok (.sipush 255, 3) := by decide +kernel
theorem dX10_sign_23 : decode cX10_sign 23 = .ok (.iand, 1) := by decide +kernel
theorem dX10_sign_24 : decode cX10_sign 24 = .ok (.goto 4, 3) := by decide +kernel
theorem dX10_sign_27 : decode cX10_sign 27 = .ok (.iconst (-1), 1) := by decide +kernel
theorem dX10_sign_28 : decode cX10_sign 28 = .ok (.ireturn, 1) := by decide +kernel
theorem dX10_blanks_0 : decode cX10_blanks 0 = .ok (.aload_n 0, 1) := by decide +kernel
theorem dX10_blanks_1 : decode cX10_blanks 1 = .ok (.invokevirtual 171, 3) := by decide +kernel
theorem dX10_blanks_4 : decode cX10_blanks 4 = .ok (.bipush 32, 2) := by decide +kernel
theorem dX10_blanks_6 : decode cX10_blanks 6 = .ok (.if_icmp .ne 16, 3) := by decide +kernel
theorem dX10_blanks_9 : decode cX10_blanks 9 = .ok (.aload_n 0, 1) := by decide +kernel
theorem dX10_blanks_10 : decode cX10_blanks 10 = .ok (.dup, 1) := by decide +kernel
theorem dX10_blanks_11 : decode cX10_blanks 11 = .ok (.getfield 168, 3) := by decide +kernel
theorem dX10_blanks_14 : decode cX10_blanks 14 = .ok (.iconst 1, 1) := by decide +kernel
theorem dX10_blanks_15 : decode cX10_blanks 15 = .ok (.iadd, 1) := by decide +kernel
theorem dX10_blanks_16 : decode cX10_blanks 16 = .ok (.putfield 168, 3) := by decide +kernel
theorem dX10_blanks_19 : decode cX10_blanks 19 = .ok (.goto (-19), 3) := by decide +kernel
theorem dX10_blanks_22 : decode cX10_blanks 22 = .ok (.return_, 1) := by decide +kernel
theorem dX10_isDigit_0 : decode cX10_isDigit 0 = .ok (.aload_n 0, 1) := by decide +kernel
theorem dX10_isDigit_1 : decode cX10_isDigit 1 = .ok (.invokevirtual 171, 3) := by decide +kernel
theorem dX10_isDigit_4 : decode cX10_isDigit 4 = .ok (.i2l, 1) := by decide +kernel
theorem dX10_isDigit_5 : decode cX10_isDigit 5 = .ok (.ldc2_w 175, 3) := by decide +kernel
theorem dX10_isDigit_8 : decode cX10_isDigit 8 = .ok (.ldc2_w 177, 3) := by decide +kernel
theorem dX10_isDigit_11 : decode cX10_isDigit 11 = .ok (.invokestatic 131, 3) := by decide +kernel
theorem dX10_isDigit_14 : decode cX10_isDigit 14 = .ok (.ireturn, 1) := by decide +kernel
theorem dX10_stood_0 : decode cX10_stood 0 = .ok (.aload_n 0, 1) := by decide +kernel
theorem dX10_stood_1 : decode cX10_stood 1 = .ok (.getfield 168, 3) := by decide +kernel
theorem dX10_stood_4 : decode cX10_stood 4 = .ok (.istore_n 2, 1) := by decide +kernel
theorem dX10_stood_5 : decode cX10_stood 5 = .ok (.iload_n 2, 1) := by decide +kernel
theorem dX10_stood_6 : decode cX10_stood 6 = .ok (.aload_n 0, 1) := by decide +kernel
theorem dX10_stood_7 : decode cX10_stood 7 = .ok (.getfield 139, 3) := by decide +kernel
theorem dX10_stood_10 : decode cX10_stood 10 = .ok (.if_icmp .ge 31, 3) := by decide +kernel
theorem dX10_stood_13 : decode cX10_stood 13 = .ok (.aload_n 0, 1) := by decide +kernel
theorem dX10_stood_14 : decode cX10_stood 14 = .ok (.getfield 62, 3) := by decide +kernel
theorem dX10_stood_17 : decode cX10_stood 17 = .ok (.iload_n 2, 1) := by decide +kernel
theorem dX10_stood_18 : decode cX10_stood 18 = .ok (.baload, 1) := by decide +kernel
theorem dX10_stood_19 : decode cX10_stood 19 = .ok (.bipush 97, 2) := by decide +kernel
theorem dX10_stood_21 : decode cX10_stood 21 = .ok (.if_icmp .lt 20, 3) := by decide +kernel
theorem dX10_stood_24 : decode cX10_stood 24 = .ok (.aload_n 0, 1) := by decide +kernel
theorem dX10_stood_25 : decode cX10_stood 25 = .ok (.getfield 62, 3) := by decide +kernel
theorem dX10_stood_28 : decode cX10_stood 28 = .ok (.iload_n 2, 1) := by decide +kernel
theorem dX10_stood_29 : decode cX10_stood 29 = .ok (.baload, 1) := by decide +kernel
theorem dX10_stood_30 : decode cX10_stood 30 = .ok (.bipush 122, 2) := by decide +kernel
theorem dX10_stood_32 : decode cX10_stood 32 = .ok (.if_icmp .gt 9, 3) := by decide +kernel
theorem dX10_stood_35 : decode cX10_stood 35 = .ok (.iinc 2 1, 3) := by decide +kernel
theorem dX10_stood_38 : decode cX10_stood 38 = .ok (.goto (-33), 3) := by decide +kernel
theorem dX10_stood_41 : decode cX10_stood 41 = .ok (.iload_n 2, 1) := by decide +kernel
theorem dX10_stood_42 : decode cX10_stood 42 = .ok (.aload_n 0, 1) := by decide +kernel
theorem dX10_stood_43 : decode cX10_stood 43 = .ok (.getfield 168, 3) := by decide +kernel
theorem dX10_stood_46 : decode cX10_stood 46 = .ok (.isub, 1) := by decide +kernel
theorem dX10_stood_47 : decode cX10_stood 47 = .ok (.aload_n 1, 1) := by decide +kernel
theorem dX10_stood_48 : decode cX10_stood 48 = .ok (.invokevirtual 179, 3) := by decide +kernel
theorem dX10_stood_51 : decode cX10_stood 51 = .ok (.if_icmp .ne 7, 3) := by decide +kernel
theorem dX10_stood_54 : decode cX10_stood 54 = .ok (.iconst 1, 1) := by decide +kernel
theorem dX10_stood_55 : decode cX10_stood 55 = .ok (.goto 4, 3) := by decide +kernel
theorem dX10_stood_58 : decode cX10_stood 58 = .ok (.iconst 0, 1) := by decide +kernel
theorem dX10_stood_59 : decode cX10_stood 59 = .ok (.istore_n 3, 1) := by decide +kernel
theorem dX10_stood_60 : decode cX10_stood 60 = .ok (.iconst 0, 1) := by decide +kernel
theorem dX10_stood_61 : decode cX10_stood 61 = .ok (.istore 4, 2) := by decide +kernel
theorem dX10_stood_63 : decode cX10_stood 63 = .ok (.iload 4, 2) := by decide +kernel
theorem dX10_stood_65 : decode cX10_stood 65 = .ok (.aload_n 1, 1) := by decide +kernel
theorem dX10_stood_66 : decode cX10_stood 66 = .ok (.invokevirtual 179, 3) := by decide +kernel
theorem dX10_stood_69 : decode cX10_stood 69 = .ok (.if_icmp .ge 40, 3) := by decide +kernel
theorem dX10_stood_72 : decode cX10_stood 72 = .ok (.iload_n 3, 1) := by decide +kernel
theorem dX10_stood_73 : decode cX10_stood 73 = .ok (.ifCond .eq 36, 3) := by decide +kernel
theorem dX10_stood_76 : decode cX10_stood 76 = .ok (.aload_n 0, 1) := by decide +kernel
theorem dX10_stood_77 : decode cX10_stood 77 = .ok (.getfield 62, 3) := by decide +kernel
theorem dX10_stood_80 : decode cX10_stood 80 = .ok (.aload_n 0, 1) := by decide +kernel
theorem dX10_stood_81 : decode cX10_stood 81 = .ok (.getfield 168, 3) := by decide +kernel
theorem dX10_stood_84 : decode cX10_stood 84 = .ok (.iload 4, 2) := by decide +kernel
theorem dX10_stood_86 : decode cX10_stood 86 = .ok (.iadd, 1) := by decide +kernel
theorem dX10_stood_87 : decode cX10_stood 87 = .ok (.baload, 1) := by decide +kernel
theorem dX10_stood_88 : decode cX10_stood 88 = .ok (.aload_n 1, 1) := by decide +kernel
theorem dX10_stood_89 : decode cX10_stood 89 = .ok (.iload 4, 2) := by decide +kernel
theorem dX10_stood_91 : decode cX10_stood 91 = .ok (.invokevirtual 184, 3) := by decide +kernel
theorem dX10_stood_94 : decode cX10_stood 94 = .ok (.if_icmp .ne 7, 3) := by decide +kernel
theorem dX10_stood_97 : decode cX10_stood 97 = .ok (.iconst 1, 1) := by decide +kernel
theorem dX10_stood_98 : decode cX10_stood 98 = .ok (.goto 4, 3) := by decide +kernel
theorem dX10_stood_101 : decode cX10_stood 101 = .ok (.iconst 0, 1) := by decide +kernel
theorem dX10_stood_102 : decode cX10_stood 102 = .ok (.istore_n 3, 1) := by decide +kernel
theorem dX10_stood_103 : decode cX10_stood 103 = .ok (.iinc 4 1, 3) := by decide +kernel
theorem dX10_stood_106 : decode cX10_stood 106 = .ok (.goto (-43), 3) := by decide +kernel
theorem dX10_stood_109 : decode cX10_stood 109 = .ok (.iload_n 3, 1) := by decide +kernel
theorem dX10_stood_110 : decode cX10_stood 110 = .ok (.ireturn, 1) := by decide +kernel
theorem dX10_takes_0 : decode cX10_takes 0 = .ok (.aload_n 0, 1) := by decide +kernel
theorem dX10_takes_1 : decode cX10_takes 1 = .ok (.invokevirtual 188, 3) := by decide +kernel
theorem dX10_takes_4 : decode cX10_takes 4 = .ok (.aload_n 0, 1) := by decide +kernel
theorem dX10_takes_5 : decode cX10_takes 5 = .ok (.aload_n 1, 1) := by decide +kernel
theorem dX10_takes_6 : decode cX10_takes 6 = .ok (.invokevirtual 191, 3) := by decide +kernel
theorem dX10_takes_9 : decode cX10_takes 9 = .ok (.istore_n 2, 1) := by decide +kernel
theorem dX10_takes_10 : decode cX10_takes 10 = .ok (.aload_n 0, 1) := by decide +kernel
theorem dX10_takes_11 : decode cX10_takes 11 = .ok (.dup, 1) := by decide +kernel
theorem dX10_takes_12 : decode cX10_takes 12 = .ok (.getfield 168, 3) := by decide +kernel
theorem dX10_takes_15 : decode cX10_takes 15 = .ok (.iload_n 2, 1) := by decide +kernel
theorem dX10_takes_16 : decode cX10_takes 16 = .ok (.ifCond .eq 10, 3) := by decide +kernel
theorem dX10_takes_19 : decode cX10_takes 19 = .ok (.aload_n 1, 1) := by decide +kernel
theorem dX10_takes_20 : decode cX10_takes 20 = .ok (.invokevirtual 179, 3) := by decide +kernel
theorem dX10_takes_23 : decode cX10_takes 23 = .ok (.goto 4, 3) := by decide +kernel
theorem dX10_takes_26 : decode cX10_takes 26 = .ok (.iconst 0, 1) := by decide +kernel
theorem dX10_takes_27 : decode cX10_takes 27 = .ok (.iadd, 1) := by decide +kernel
theorem dX10_takes_28 : decode cX10_takes 28 = .ok (.putfield 168, 3) := by decide +kernel
theorem dX10_takes_31 : decode cX10_takes 31 = .ok (.iload_n 2, 1) := by decide +kernel
theorem dX10_takes_32 : decode cX10_takes 32 = .ok (.ireturn, 1) := by decide +kernel
theorem dX10_entry_0 : decode cX10_entry 0 = .ok (.aload_n 0, 1) := by decide +kernel
theorem dX10_entry_1 : decode cX10_entry 1 = .ok (.getfield 165, 3) := by decide +kernel
theorem dX10_entry_4 : decode cX10_entry 4 = .ok (.ifCond .ne 51, 3) := by decide +kernel
theorem dX10_entry_7 : decode cX10_entry 7 = .ok (.aload_n 0, 1) := by decide +kernel
theorem dX10_entry_8 : decode cX10_entry 8 = .ok (.getfield 66, 3) := by decide +kernel
theorem dX10_entry_11 : decode cX10_entry 11 = .ok (.sipush 300, 3) := by decide +kernel
theorem dX10_entry_14 : decode cX10_entry 14 = .ok (.aload_n 0, 1) := by decide +kernel
theorem dX10_entry_15 : decode cX10_entry 15 = .ok (.getfield 195, 3) := by decide +kernel
theorem dX10_entry_18 : decode cX10_entry 18 = .ok (.imul, 1) := by decide +kernel
theorem dX10_entry_19 : decode cX10_entry 19 = .ok (.aload_n 0, 1) := by decide +kernel
theorem dX10_entry_20 : decode cX10_entry 20 = .ok (.getfield 198, 3) := by decide +kernel
theorem dX10_entry_23 : decode cX10_entry 23 = .ok (.iadd, 1) := by decide +kernel
theorem dX10_entry_24 : decode cX10_entry 24 = .ok (.iload_n 1, 1) := by decide +kernel
theorem dX10_entry_25 : decode cX10_entry 25 = .ok (.iastore, 1) := by decide +kernel
theorem dX10_entry_26 : decode cX10_entry 26 = .ok (.aload_n 0, 1) := by decide +kernel
theorem dX10_entry_27 : decode cX10_entry 27 = .ok (.getfield 69, 3) := by decide +kernel
theorem dX10_entry_30 : decode cX10_entry 30 = .ok (.sipush 300, 3) := by decide +kernel
theorem dX10_entry_33 : decode cX10_entry 33 = .ok (.aload_n 0, 1) := by decide +kernel
theorem dX10_entry_34 : decode cX10_entry 34 = .ok (.getfield 195, 3) := by decide +kernel
theorem dX10_entry_37 : decode cX10_entry 37 = .ok (.imul, 1) := by decide +kernel
theorem dX10_entry_38 : decode cX10_entry 38 = .ok (.aload_n 0, 1) := by decide +kernel
theorem dX10_entry_39 : decode cX10_entry 39 = .ok (.getfield 198, 3) := by decide +kernel
theorem dX10_entry_42 : decode cX10_entry 42 = .ok (.iadd, 1) := by decide +kernel
theorem dX10_entry_43 : decode cX10_entry 43 = .ok (.iload_n 2, 1) := by decide +kernel
theorem dX10_entry_44 : decode cX10_entry 44 = .ok (.iastore, 1) := by decide +kernel
theorem dX10_entry_45 : decode cX10_entry 45 = .ok (.aload_n 0, 1) := by decide +kernel
theorem dX10_entry_46 : decode cX10_entry 46 = .ok (.dup, 1) := by decide +kernel
theorem dX10_entry_47 : decode cX10_entry 47 = .ok (.getfield 198, 3) := by decide +kernel
theorem dX10_entry_50 : decode cX10_entry 50 = .ok (.iconst 1, 1) := by decide +kernel
theorem dX10_entry_51 : decode cX10_entry 51 = .ok (.iadd, 1) := by decide +kernel
theorem dX10_entry_52 : decode cX10_entry 52 = .ok (.putfield 198, 3) := by decide +kernel
theorem dX10_entry_55 : decode cX10_entry 55 = .ok (.return_, 1) := by decide +kernel
theorem dX10_isCounted_0 : decode cX10_isCounted 0 = .ok (.aload_n 0, 1) := by decide +kernel
theorem dX10_isCounted_1 : decode cX10_isCounted 1 = .ok (.getfield 201, 3) := by decide +kernel
theorem dX10_isCounted_4 : decode cX10_isCounted 4 = .ok (.bipush 60, 2) := by decide +kernel
theorem dX10_isCounted_6 : decode cX10_isCounted 6 = .ok (.if_icmp .ne 9, 3) := by decide +kernel
theorem dX10_isCounted_9 : decode cX10_isCounted 9 = .ok (.aload_n 0, 1) := by decide +kernel
theorem dX10_isCounted_10 : decode cX10_isCounted 10 = .ok (.iconst 3, 1) := by decide +kernel
theorem dX10_isCounted_11 : decode cX10_isCounted 11 = .ok (.iload_n 1, 1) := by decide +kernel
theorem dX10_isCounted_12 : decode cX10_isCounted 12 = .ok (.invokevirtual 204, 3) := by decide +kernel
theorem dX10_isCounted_15 : decode cX10_isCounted 15 = .ok (.aload_n 0, 1) := by decide +kernel
theorem dX10_isCounted_16 : decode cX10_isCounted 16 = .ok (.dup, 1) := by decide +kernel
theorem dX10_isCounted_17 : decode cX10_isCounted 17 = .ok (.getfield 201, 3) := by decide +kernel
theorem dX10_isCounted_20 : decode cX10_isCounted 20 = .ok (.iconst 1, 1) := by decide +kernel
theorem dX10_isCounted_21 : decode cX10_isCounted 21 = .ok (.iadd, 1) := by decide +kernel
theorem dX10_isCounted_22 : decode cX10_isCounted 22 = .ok (.putfield 201, 3) := by decide +kernel
theorem dX10_isCounted_25 : decode cX10_isCounted 25 = .ok (.return_, 1) := by decide +kernel
theorem dX10_digits_0 : decode cX10_digits 0 = .ok (.aload_n 0, 1) := by decide +kernel
theorem dX10_digits_1 : decode cX10_digits 1 = .ok (.invokevirtual 208, 3) := by decide +kernel
theorem dX10_digits_4 : decode cX10_digits 4 = .ok (.ifCond .ne 14, 3) := by decide +kernel
theorem dX10_digits_7 : decode cX10_digits 7 = .ok (.aload_n 0, 1) := by decide +kernel
theorem dX10_digits_8 : decode cX10_digits 8 = .ok (.iconst 0, 1) := by decide +kernel
theorem dX10_digits_9 : decode cX10_digits 9 = .ok (.aload_n 0, 1) := by decide +kernel
theorem dX10_digits_10 : decode cX10_digits 10 = .ok (.getfield 168, 3) := by decide +kernel
theorem dX10_digits_13 : decode cX10_digits 13 = .ok (.invokevirtual 204, 3) := by decide +kernel
theorem dX10_digits_16 : decode cX10_digits 16 = .ok (.iconst 0, 1) := by decide +kernel
theorem dX10_digits_17 : decode cX10_digits 17 = .ok (.ireturn, 1) := by decide +kernel
theorem dX10_digits_18 : decode cX10_digits 18 = .ok (.aload_n 0, 1) := by decide +kernel
theorem dX10_digits_19 : decode cX10_digits 19 = .ok (.getfield 168, 3) := by decide +kernel
theorem dX10_digits_22 : decode cX10_digits 22 = .ok (.istore_n 2, 1) := by decide +kernel
theorem dX10_digits_23 : decode cX10_digits 23 = .ok (.iconst 0, 1) := by decide +kernel
theorem dX10_digits_24 : decode cX10_digits 24 = .ok (.istore_n 3, 1) := by decide +kernel
theorem dX10_digits_25 : decode cX10_digits 25 = .ok (.aload_n 0, 1) := by decide +kernel
theorem dX10_digits_26 : decode cX10_digits 26 = .ok (.invokevirtual 208, 3) := by decide +kernel
theorem dX10_digits_29 : decode cX10_digits 29 = .ok (.ifCond .eq 43, 3) := by decide +kernel
theorem dX10_digits_32 : decode cX10_digits 32 = .ok (.aload_n 0, 1) := by decide +kernel
theorem dX10_digits_33 : decode cX10_digits 33 = .ok (.getfield 168, 3) := by decide +kernel
theorem dX10_digits_36 : decode cX10_digits 36 = .ok (.iload_n 2, 1) := by decide +kernel
theorem dX10_digits_37 : decode cX10_digits 37 = .ok (.isub, 1) := by decide +kernel
theorem dX10_digits_38 : decode cX10_digits 38 = .ok (.iconst 5, 1) := by decide +kernel
theorem dX10_digits_39 : decode cX10_digits 39 = .ok (.if_icmp .ge 18, 3) := by decide +kernel
theorem dX10_digits_42 : decode cX10_digits 42 = .ok (.bipush 10, 2) := by decide +kernel
theorem dX10_digits_44 : decode cX10_digits 44 = .ok (.iload_n 3, 1) := by decide +kernel
theorem dX10_digits_45 : decode cX10_digits 45 = .ok (.imul, 1) := by decide +kernel
theorem dX10_digits_46 : decode cX10_digits 46 = .ok (.aload_n 0, 1) := by decide +kernel
theorem dX10_digits_47 : decode cX10_digits 47 = .ok (.invokevirtual 171, 3) := by decide +kernel
theorem dX10_digits_50 : decode cX10_digits 50 = .ok (.iadd, 1) := by decide +kernel
theorem dX10_digits_51 : decode cX10_digits 51 = .ok (.bipush 48, 2) := by decide +kernel
theorem dX10_digits_53 : decode cX10_digits 53 = .ok (.isub, 1) := by decide +kernel
theorem dX10_digits_54 : decode cX10_digits 54 = .ok (.goto 4, 3) := by decide +kernel
theorem dX10_digits_57 : decode cX10_digits 57 = .ok (.iload_n 3, 1) := by decide +kernel
theorem dX10_digits_58 : decode cX10_digits 58 = .ok (.istore_n 3, 1) := by decide +kernel
theorem dX10_digits_59 : decode cX10_digits 59 = .ok (.aload_n 0, 1) := by decide +kernel
theorem dX10_digits_60 : decode cX10_digits 60 = .ok (.dup, 1) := by decide +kernel
theorem dX10_digits_61 : decode cX10_digits 61 = .ok (.getfield 168, 3) := by decide +kernel
theorem dX10_digits_64 : decode cX10_digits 64 = .ok (.iconst 1, 1) := by decide +kernel
theorem dX10_digits_65 : decode cX10_digits 65 = .ok (.iadd, 1) := by decide +kernel
theorem dX10_digits_66 : decode cX10_digits 66 = .ok (.putfield 168, 3) := by decide +kernel
theorem dX10_digits_69 : decode cX10_digits 69 = .ok (.goto (-44), 3) := by decide +kernel
theorem dX10_digits_72 : decode cX10_digits 72 = .ok (.aload_n 0, 1) := by decide +kernel
theorem dX10_digits_73 : decode cX10_digits 73 = .ok (.getfield 168, 3) := by decide +kernel
theorem dX10_digits_76 : decode cX10_digits 76 = .ok (.iload_n 2, 1) := by decide +kernel
theorem dX10_digits_77 : decode cX10_digits 77 = .ok (.isub, 1) := by decide +kernel
theorem dX10_digits_78 : decode cX10_digits 78 = .ok (.iconst 5, 1) := by decide +kernel
theorem dX10_digits_79 : decode cX10_digits 79 = .ok (.if_icmp .gt 8, 3) := by decide +kernel
theorem dX10_digits_82 : decode cX10_digits 82 = .ok (.iload_n 3, 1) := by decide +kernel
theorem dX10_digits_83 : decode cX10_digits 83 = .ok (.iload_n 1, 1) := by decide +kernel
theorem dX10_digits_84 : decode cX10_digits 84 = .ok (.if_icmp .le 9, 3) := by decide +kernel
theorem dX10_digits_87 : decode cX10_digits 87 = .ok (.aload_n 0, 1) := by decide +kernel
theorem dX10_digits_88 : decode cX10_digits 88 = .ok (.iconst 1, 1) := by decide +kernel
theorem dX10_digits_89 : decode cX10_digits 89 = .ok (.iload_n 2, 1) := by decide +kernel
theorem dX10_digits_90 : decode cX10_digits 90 = .ok (.invokevirtual 204, 3) := by decide +kernel
theorem dX10_digits_93 : decode cX10_digits 93 = .ok (.iload_n 3, 1) := by decide +kernel
theorem dX10_digits_94 : decode cX10_digits 94 = .ok (.ireturn, 1) := by decide +kernel
theorem dX10_value_0 : decode cX10_value 0 = .ok (.aload_n 0, 1) := by decide +kernel
theorem dX10_value_1 : decode cX10_value 1 = .ok (.invokevirtual 188, 3) := by decide +kernel
theorem dX10_value_4 : decode cX10_value 4 = .ok (.aload_n 0, 1) := by decide +kernel
theorem dX10_value_5 : decode cX10_value 5 = .ok (.getfield 168, 3) := by decide +kernel
theorem dX10_value_8 : decode cX10_value 8 = .ok (.istore_n 1, 1) := by decide +kernel
theorem dX10_value_9 : decode cX10_value 9 = .ok (.aload_n 0, 1) := by decide +kernel
theorem dX10_value_10 : decode cX10_value 10 = .ok (.invokevirtual 208, 3) := by decide +kernel
theorem dX10_value_13 : decode cX10_value 13 = .ok (.ifCond .eq 22, 3) := by decide +kernel
theorem dX10_value_16 : decode cX10_value 16 = .ok (.aload_n 0, 1) := by decide +kernel
theorem dX10_value_17 : decode cX10_value 17 = .ok (.ldc 212, 2) := by decide +kernel
theorem dX10_value_19 : decode cX10_value 19 = .ok (.invokevirtual 213, 3) := by decide +kernel
theorem dX10_value_22 : decode cX10_value 22 = .ok (.istore_n 2, 1) := by decide +kernel
theorem dX10_value_23 : decode cX10_value 23 = .ok (.aload_n 0, 1) := by decide +kernel
theorem dX10_value_24 : decode cX10_value 24 = .ok (.iload_n 1, 1) := by decide +kernel
theorem dX10_value_25 : decode cX10_value 25 = .ok (.invokevirtual 217, 3) := by decide +kernel
theorem dX10_value_28 : decode cX10_value 28 = .ok (.aload_n 0, 1) := by decide +kernel
theorem dX10_value_29 : decode cX10_value 29 = .ok (.iconst 0, 1) := by decide +kernel
theorem dX10_value_30 : decode cX10_value 30 = .ok (.iload_n 2, 1) := by decide +kernel
theorem dX10_value_31 : decode cX10_value 31 = .ok (.invokevirtual 220, 3) := by decide +kernel
theorem dX10_value_34 : decode cX10_value 34 = .ok (.return_, 1) := by decide +kernel
theorem dX10_value_35 : decode cX10_value 35 = .ok (.iconst 0, 1) := by decide +kernel
theorem dX10_value_36 : decode cX10_value 36 = .ok (.istore_n 2, 1) := by decide +kernel
theorem dX10_value_37 : decode cX10_value 37 = .ok (.iload_n 2, 1) := by decide +kernel
theorem dX10_value_38 : decode cX10_value 38 = .ok (.aload_n 0, 1) := by decide +kernel
theorem dX10_value_39 : decode cX10_value 39 = .ok (.getfield 58, 3) := by decide +kernel
theorem dX10_value_42 : decode cX10_value 42 = .ok (.if_icmp .ge 20, 3) := by decide +kernel
theorem dX10_value_45 : decode cX10_value 45 = .ok (.aload_n 0, 1) := by decide +kernel
theorem dX10_value_46 : decode cX10_value 46 = .ok (.iload_n 2, 1) := by decide +kernel
theorem dX10_value_47 : decode cX10_value 47 = .ok (.invokestatic 223, 3) := by decide +kernel
theorem dX10_value_50 : decode cX10_value 50 = .ok (.invokevirtual 191, 3) := by decide +kernel
theorem dX10_value_53 : decode cX10_value 53 = .ok (.ifCond .ne 9, 3) := by decide +kernel
theorem dX10_value_56 : decode cX10_value 56 = .ok (.iinc 2 1, 3) := by decide +kernel
theorem dX10_value_59 : decode cX10_value 59 = .ok (.goto (-22), 3) := by decide +kernel
theorem dX10_value_62 : decode cX10_value 62 = .ok (.iload_n 2, 1) := by decide +kernel
theorem dX10_value_63 : decode cX10_value 63 = .ok (.aload_n 0, 1) := by decide +kernel
theorem dX10_value_64 : decode cX10_value 64 = .ok (.getfield 58, 3) := by decide +kernel
theorem dX10_value_67 : decode cX10_value 67 = .ok (.if_icmp .ne 10, 3) := by decide +kernel
theorem dX10_value_70 : decode cX10_value 70 = .ok (.aload_n 0, 1) := by decide +kernel
theorem dX10_value_71 : decode cX10_value 71 = .ok (.iconst 0, 1) := by decide +kernel
theorem dX10_value_72 : decode cX10_value 72 = .ok (.iload_n 1, 1) := by decide +kernel
theorem dX10_value_73 : decode cX10_value 73 = .ok (.invokevirtual 204, 3) := by decide +kernel
theorem dX10_value_76 : decode cX10_value 76 = .ok (.return_, 1) := by decide +kernel
theorem dX10_value_77 : decode cX10_value 77 = .ok (.aload_n 0, 1) := by decide +kernel
theorem dX10_value_78 : decode cX10_value 78 = .ok (.iload_n 1, 1) := by decide +kernel
theorem dX10_value_79 : decode cX10_value 79 = .ok (.invokevirtual 217, 3) := by decide +kernel
theorem dX10_value_82 : decode cX10_value 82 = .ok (.aload_n 0, 1) := by decide +kernel
theorem dX10_value_83 : decode cX10_value 83 = .ok (.dup, 1) := by decide +kernel
theorem dX10_value_84 : decode cX10_value 84 = .ok (.getfield 168, 3) := by decide +kernel
theorem dX10_value_87 : decode cX10_value 87 = .ok (.iload_n 2, 1) := by decide +kernel
theorem dX10_value_88 : decode cX10_value 88 = .ok (.invokestatic 223, 3) := by decide +kernel
theorem dX10_value_91 : decode cX10_value 91 = .ok (.invokevirtual 179, 3) := by decide +kernel
theorem dX10_value_94 : decode cX10_value 94 = .ok (.iadd, 1) := by decide +kernel
theorem dX10_value_95 : decode cX10_value 95 = .ok (.putfield 168, 3) := by decide +kernel
theorem dX10_value_98 : decode cX10_value 98 = .ok (.aload_n 0, 1) := by decide +kernel
theorem dX10_value_99 : decode cX10_value 99 = .ok (.iconst 1, 1) := by decide +kernel
theorem dX10_value_100 : decode cX10_value 100 = .ok (.iload_n 2, 1) := by decide +kernel
theorem dX10_value_101 : decode cX10_value 101 = .ok (.invokevirtual 220, 3) := by decide +kernel
theorem dX10_value_104 : decode cX10_value 104 = .ok (.return_, 1) := by decide +kernel
theorem dX10_term_0 : decode cX10_term 0 = .ok (.aload_n 0, 1) := by decide +kernel
theorem dX10_term_1 : decode cX10_term 1 = .ok (.invokevirtual 227, 3) := by decide +kernel
theorem dX10_term_4 : decode cX10_term 4 = .ok (.aload_n 0, 1) := by decide +kernel
theorem dX10_term_5 : decode cX10_term 5 = .ok (.invokevirtual 188, 3) := by decide +kernel
theorem dX10_term_8 : decode cX10_term 8 = .ok (.aload_n 0, 1) := by decide +kernel
theorem dX10_term_9 : decode cX10_term 9 = .ok (.getfield 165, 3) := by decide +kernel
theorem dX10_term_12 : decode cX10_term 12 = .ok (.ifCond .ne 88, 3) := by decide +kernel
theorem dX10_term_15 : decode cX10_term 15 = .ok (.aload_n 0, 1) := by decide +kernel
theorem dX10_term_16 : decode cX10_term 16 = .ok (.invokevirtual 171, 3) := by decide +kernel
theorem dX10_term_19 : decode cX10_term 19 = .ok (.bipush 42, 2) := by decide +kernel
theorem dX10_term_21 : decode cX10_term 21 = .ok (.if_icmp .eq 21, 3) := by decide +kernel
theorem dX10_term_24 : decode cX10_term 24 = .ok (.aload_n 0, 1) := by decide +kernel
theorem dX10_term_25 : decode cX10_term 25 = .ok (.invokevirtual 171, 3) := by decide +kernel
theorem dX10_term_28 : decode cX10_term 28 = .ok (.bipush 47, 2) := by decide +kernel
theorem dX10_term_30 : decode cX10_term 30 = .ok (.if_icmp .eq 12, 3) := by decide +kernel
theorem dX10_term_33 : decode cX10_term 33 = .ok (.aload_n 0, 1) := by decide +kernel
theorem dX10_term_34 : decode cX10_term 34 = .ok (.invokevirtual 171, 3) := by decide +kernel
theorem dX10_term_37 : decode cX10_term 37 = .ok (.bipush 37, 2) := by decide +kernel
theorem dX10_term_39 : decode cX10_term 39 = .ok (.if_icmp .ne 61, 3) := by decide +kernel
theorem dX10_term_42 : decode cX10_term 42 = .ok (.aload_n 0, 1) := by decide +kernel
theorem dX10_term_43 : decode cX10_term 43 = .ok (.invokevirtual 171, 3) := by decide +kernel
theorem dX10_term_46 : decode cX10_term 46 = .ok (.bipush 42, 2) := by decide +kernel
theorem dX10_term_48 : decode cX10_term 48 = .ok (.if_icmp .ne 8, 3) := by decide +kernel
theorem dX10_term_51 : decode cX10_term 51 = .ok (.bipush 13, 2) := by decide +kernel
theorem dX10_term_53 : decode cX10_term 53 = .ok (.goto 19, 3) := by decide +kernel
theorem dX10_term_56 : decode cX10_term 56 = .ok (.aload_n 0, 1) := by decide +kernel
theorem dX10_term_57 : decode cX10_term 57 = .ok (.invokevirtual 171, 3) := by decide +kernel
theorem dX10_term_60 : decode cX10_term 60 = .ok (.bipush 47, 2) := by decide +kernel
theorem dX10_term_62 : decode cX10_term 62 = .ok (.if_icmp .ne 8, 3) := by decide +kernel
theorem dX10_term_65 : decode cX10_term 65 = .ok (.bipush 14, 2) := by decide +kernel
theorem dX10_term_67 : decode cX10_term 67 = .ok (.goto 5, 3) := by decide +kernel
theorem dX10_term_70 : decode cX10_term 70 = .ok (.bipush 15, 2) := by decide +kernel
theorem dX10_term_72 : decode cX10_term 72 = .ok (.istore_n 1, 1) := by decide +kernel
theorem dX10_term_73 : decode cX10_term 73 = .ok (.aload_n 0, 1) := by decide +kernel
theorem dX10_term_74 : decode cX10_term 74 = .ok (.dup, 1) := by decide +kernel
theorem dX10_term_75 : decode cX10_term 75 = .ok (.getfield 168, 3) := by decide +kernel
theorem dX10_term_78 : decode cX10_term 78 = .ok (.iconst 1, 1) := by decide +kernel
theorem dX10_term_79 : decode cX10_term 79 = .ok (.iadd, 1) := by decide +kernel
theorem dX10_term_80 : decode cX10_term 80 = .ok (.putfield 168, 3) := by decide +kernel
theorem dX10_term_83 : decode cX10_term 83 = .ok (.aload_n 0, 1) := by decide +kernel
theorem dX10_term_84 : decode cX10_term 84 = .ok (.invokevirtual 227, 3) := by decide +kernel
theorem dX10_term_87 : decode cX10_term 87 = .ok (.aload_n 0, 1) := by decide +kernel
theorem dX10_term_88 : decode cX10_term 88 = .ok (.iload_n 1, 1) := by decide +kernel
theorem dX10_term_89 : decode cX10_term 89 = .ok (.iconst 0, 1) := by decide +kernel
theorem dX10_term_90 : decode cX10_term 90 = .ok (.invokevirtual 220, 3) := by decide +kernel
theorem dX10_term_93 : decode cX10_term 93 = .ok (.aload_n 0, 1) := by decide +kernel
theorem dX10_term_94 : decode cX10_term 94 = .ok (.invokevirtual 188, 3) := by decide +kernel
theorem dX10_term_97 : decode cX10_term 97 = .ok (.goto (-89), 3) := by decide +kernel
theorem dX10_term_100 : decode cX10_term 100 = .ok (.return_, 1) := by decide +kernel
theorem dX10_sum_0 : decode cX10_sum 0 = .ok (.aload_n 0, 1) := by decide +kernel
theorem dX10_sum_1 : decode cX10_sum 1 = .ok (.invokevirtual 230, 3) := by decide +kernel
theorem dX10_sum_4 : decode cX10_sum 4 = .ok (.aload_n 0, 1) := by decide +kernel
theorem dX10_sum_5 : decode cX10_sum 5 = .ok (.getfield 165, 3) := by decide +kernel
theorem dX10_sum_8 : decode cX10_sum 8 = .ok (.ifCond .ne 59, 3) := by decide +kernel
theorem dX10_sum_11 : decode cX10_sum 11 = .ok (.aload_n 0, 1) := by decide +kernel
theorem dX10_sum_12 : decode cX10_sum 12 = .ok (.invokevirtual 171, 3) := by decide +kernel
theorem dX10_sum_15 : decode cX10_sum 15 = .ok (.bipush 43, 2) := by decide +kernel
theorem dX10_sum_17 : decode cX10_sum 17 = .ok (.if_icmp .eq 12, 3) := by decide +kernel
theorem dX10_sum_20 : decode cX10_sum 20 = .ok (.aload_n 0, 1) := by decide +kernel
theorem dX10_sum_21 : decode cX10_sum 21 = .ok (.invokevirtual 171, 3) := by decide +kernel
theorem dX10_sum_24 : decode cX10_sum 24 = .ok (.bipush 45, 2) := by decide +kernel
theorem dX10_sum_26 : decode cX10_sum 26 = .ok (.if_icmp .ne 41, 3) := by decide +kernel
theorem dX10_sum_29 : decode cX10_sum 29 = .ok (.aload_n 0, 1) := by decide +kernel
theorem dX10_sum_30 : decode cX10_sum 30 = .ok (.invokevirtual 171, 3) := by decide +kernel
theorem dX10_sum_33 : decode cX10_sum 33 = .ok (.bipush 43, 2) := by decide +kernel
theorem dX10_sum_35 : decode cX10_sum 35 = .ok (.if_icmp .ne 7, 3) := by decide +kernel
theorem dX10_sum_38 : decode cX10_sum 38 = .ok (.iconst 2, 1) := by decide +kernel
theorem dX10_sum_39 : decode cX10_sum 39 = .ok (.goto 4, 3) := by decide +kernel
theorem dX10_sum_42 : decode cX10_sum 42 = .ok (.iconst 3, 1) := by decide +kernel
theorem dX10_sum_43 : decode cX10_sum 43 = .ok (.istore_n 1, 1) := by decide +kernel
theorem dX10_sum_44 : decode cX10_sum 44 = .ok (.aload_n 0, 1) := by decide +kernel
theorem dX10_sum_45 : decode cX10_sum 45 = .ok (.dup, 1) := by decide +kernel
theorem dX10_sum_46 : decode cX10_sum 46 = .ok (.getfield 168, 3) := by decide +kernel
theorem dX10_sum_49 : decode cX10_sum 49 = .ok (.iconst 1, 1) := by decide +kernel
theorem dX10_sum_50 : decode cX10_sum 50 = .ok (.iadd, 1) := by decide +kernel
theorem dX10_sum_51 : decode cX10_sum 51 = .ok (.putfield 168, 3) := by decide +kernel
theorem dX10_sum_54 : decode cX10_sum 54 = .ok (.aload_n 0, 1) := by decide +kernel
theorem dX10_sum_55 : decode cX10_sum 55 = .ok (.invokevirtual 230, 3) := by decide +kernel
theorem dX10_sum_58 : decode cX10_sum 58 = .ok (.aload_n 0, 1) := by decide +kernel
theorem dX10_sum_59 : decode cX10_sum 59 = .ok (.iload_n 1, 1) := by decide +kernel
theorem dX10_sum_60 : decode cX10_sum 60 = .ok (.iconst 0, 1) := by decide +kernel
theorem dX10_sum_61 : decode cX10_sum 61 = .ok (.invokevirtual 220, 3) := by decide +kernel
theorem dX10_sum_64 : decode cX10_sum 64 = .ok (.goto (-60), 3) := by decide +kernel
theorem dX10_sum_67 : decode cX10_sum 67 = .ok (.return_, 1) := by decide +kernel
theorem dX10_compared_0 : decode cX10_compared 0 = .ok (.aload_n 0, 1) := by decide +kernel
theorem dX10_compared_1 : decode cX10_compared 1 = .ok (.invokevirtual 233, 3) := by decide +kernel
theorem dX10_compared_4 : decode cX10_compared 4 = .ok (.aload_n 0, 1) := by decide +kernel
theorem dX10_compared_5 : decode cX10_compared 5 = .ok (.invokevirtual 171, 3) := by decide +kernel
theorem dX10_compared_8 : decode cX10_compared 8 = .ok (.istore_n 1, 1) := by decide +kernel
theorem dX10_compared_9 : decode cX10_compared 9 = .ok (.iload_n 1, 1) := by decide +kernel
theorem dX10_compared_10 : decode cX10_compared 10 = .ok (.bipush 60, 2) := by decide +kernel
theorem dX10_compared_12 : decode cX10_compared 12 = .ok (.if_icmp .eq 25, 3) := by decide +kernel
theorem dX10_compared_15 : decode cX10_compared 15 = .ok (.iload_n 1, 1) := by decide +kernel
theorem dX10_compared_16 : decode cX10_compared 16 = .ok (.bipush 61, 2) := by decide +kernel
theorem dX10_compared_18 : decode cX10_compared 18 = .ok (.if_icmp .eq 19, 3) := by decide +kernel
theorem dX10_compared_21 : decode cX10_compared 21 = .ok (.iload_n 1, 1) := by decide +kernel
theorem dX10_compared_22 : decode cX10_compared 22 = .ok (.bipush 62, 2) := by decide +kernel
theorem dX10_compared_24 : decode cX10_compared 24 = .ok (.if_icmp .eq 13, 3) := by decide +kernel
theorem dX10_compared_27 : decode cX10_compared 27 = .ok (.aload_n 0, 1) := by decide +kernel
theorem dX10_compared_28 : decode cX10_compared 28 = .ok (.iconst 0, 1) := by decide +kernel
theorem dX10_compared_29 : decode cX10_compared 29 = .ok (.aload_n 0, 1) := by decide +kernel
theorem dX10_compared_30 : decode cX10_compared 30 = .ok (.getfield 168, 3) := by decide +kernel
theorem dX10_compared_33 : decode cX10_compared 33 = .ok (.invokevirtual 204, 3) := by decide +kernel
theorem dX10_compared_36 : decode cX10_compared 36 = .ok (.return_, 1) := by decide +kernel
theorem dX10_compared_37 : decode cX10_compared 37 = .ok (.aload_n 0, 1) := by decide +kernel
theorem dX10_compared_38 : decode cX10_compared 38 = .ok (.aload_n 0, 1) := by decide +kernel
theorem dX10_compared_39 : decode cX10_compared 39 = .ok (.getfield 168, 3) := by decide +kernel
theorem dX10_compared_42 : decode cX10_compared 42 = .ok (.invokevirtual 217, 3) := by decide +kernel
theorem dX10_compared_45 : decode cX10_compared 45 = .ok (.aload_n 0, 1) := by decide +kernel
theorem dX10_compared_46 : decode cX10_compared 46 = .ok (.dup, 1) := by decide +kernel
theorem dX10_compared_47 : decode cX10_compared 47 = .ok (.getfield 168, 3) := by decide +kernel
theorem dX10_compared_50 : decode cX10_compared 50 = .ok (.iconst 1, 1) := by decide +kernel
theorem dX10_compared_51 : decode cX10_compared 51 = .ok (.iadd, 1) := by decide +kernel
theorem dX10_compared_52 : decode cX10_compared 52 = .ok (.putfield 168, 3) := by decide +kernel
theorem dX10_compared_55 : decode cX10_compared 55 = .ok (.iload_n 1, 1) := by decide +kernel
theorem dX10_compared_56 : decode cX10_compared 56 = .ok (.bipush 61, 2) := by decide +kernel
theorem dX10_compared_58 : decode cX10_compared 58 = .ok (.if_icmp .eq 16, 3) := by decide +kernel
theorem dX10_compared_61 : decode cX10_compared 61 = .ok (.aload_n 0, 1) := by decide +kernel
theorem dX10_compared_62 : decode cX10_compared 62 = .ok (.invokevirtual 171, 3) := by decide +kernel
theorem dX10_compared_65 : decode cX10_compared 65 = .ok (.bipush 61, 2) := by decide +kernel
theorem dX10_compared_67 : decode cX10_compared 67 = .ok (.if_icmp .ne 7, 3) := by decide +kernel
theorem dX10_compared_70 : decode cX10_compared 70 = .ok (.iconst 1, 1) := by decide +kernel
theorem dX10_compared_71 : decode cX10_compared 71 = .ok (.goto 4, 3) := by decide +kernel
theorem dX10_compared_74 : decode cX10_compared 74 = .ok (.iconst 0, 1) := by decide +kernel
theorem dX10_compared_75 : decode cX10_compared 75 = .ok (.istore_n 2, 1) := by decide +kernel
theorem dX10_compared_76 : decode cX10_compared 76 = .ok (.aload_n 0, 1) := by decide +kernel
theorem dX10_compared_77 : decode cX10_compared 77 = .ok (.dup, 1) := by decide +kernel
theorem dX10_compared_78 : decode cX10_compared 78 = .ok (.getfield 168, 3) := by decide +kernel
theorem dX10_compared_81 : decode cX10_compared 81 = .ok (.iload_n 2, 1) := by decide +kernel
theorem dX10_compared_82 : decode cX10_compared 82 = .ok (.ifCond .eq 7, 3) := by decide +kernel
theorem dX10_compared_85 : decode cX10_compared 85 = .ok (.iconst 1, 1) := by decide +kernel
theorem dX10_compared_86 : decode cX10_compared 86 = .ok (.goto 4, 3) := by decide +kernel
theorem dX10_compared_89 : decode cX10_compared 89 = .ok (.iconst 0, 1) := by decide +kernel
theorem dX10_compared_90 : decode cX10_compared 90 = .ok (.iadd, 1) := by decide +kernel
theorem dX10_compared_91 : decode cX10_compared 91 = .ok (.putfield 168, 3) := by decide +kernel
theorem dX10_compared_94 : decode cX10_compared 94 = .ok (.aload_n 0, 1) := by decide +kernel
theorem dX10_compared_95 : decode cX10_compared 95 = .ok (.invokevirtual 233, 3) := by decide +kernel
theorem dX10_compared_98 : decode cX10_compared 98 = .ok (.aload_n 0, 1) := by decide +kernel
theorem dX10_compared_99 : decode cX10_compared 99 = .ok (.iload_n 1, 1) := by decide +kernel
theorem dX10_compared_100 : decode cX10_compared 100 = .ok (.bipush 61, 2) := by decide +kernel
theorem dX10_compared_102 : decode cX10_compared 102 = .ok (.if_icmp .ne 8, 3) := by decide +kernel
theorem dX10_compared_105 : decode cX10_compared 105 = .ok (.bipush 6, 2) := by decide +kernel
theorem dX10_compared_107 : decode cX10_compared 107 = .ok (.goto 32, 3) := by decide +kernel
theorem dX10_compared_110 : decode cX10_compared 110 = .ok (.iload_n 1, 1) := by decide +kernel
theorem dX10_compared_111 : decode cX10_compared 111 = .ok (.bipush 60, 2) := by decide +kernel
theorem dX10_compared_113 : decode cX10_compared 113 = .ok (.if_icmp .ne 15, 3) := by decide +kernel
theorem dX10_compared_116 : decode cX10_compared 116 = .ok (.iload_n 2, 1) := by decide +kernel
theorem dX10_compared_117 : decode cX10_compared 117 = .ok (.ifCond .eq 7, 3) := by decide +kernel
theorem dX10_compared_120 : decode cX10_compared 120 = .ok (.iconst 5, 1) := by decide +kernel
theorem dX10_compared_121 : decode cX10_compared 121 = .ok (.goto 18, 3) := by decide +kernel
theorem dX10_compared_124 : decode cX10_compared 124 = .ok (.iconst 4, 1) := by decide +kernel
theorem dX10_compared_125 : decode cX10_compared 125 = .ok (.goto 14, 3) := by decide +kernel
theorem dX10_compared_128 : decode cX10_compared 128 = .ok (.iload_n 2, 1) := by decide +kernel
theorem dX10_compared_129 : decode cX10_compared 129 = .ok (.ifCond .eq 8, 3) := by decide +kernel
theorem dX10_compared_132 : decode cX10_compared 132 = .ok (.bipush 7, 2) := by decide +kernel
theorem dX10_compared_134 : decode cX10_compared 134 = .ok (.goto 5, 3) := by decide +kernel
theorem dX10_compared_137 : decode cX10_compared 137 = .ok (.bipush 8, 2) := by decide +kernel
theorem dX10_compared_139 : decode cX10_compared 139 = .ok (.iconst 0, 1) := by decide +kernel
theorem dX10_compared_140 : decode cX10_compared 140 = .ok (.invokevirtual 220, 3) := by decide +kernel
theorem dX10_compared_143 : decode cX10_compared 143 = .ok (.return_, 1) := by decide +kernel
theorem dX10_top_0 : decode cX10_top 0 = .ok (.aload_n 0, 1) := by decide +kernel
theorem dX10_top_1 : decode cX10_top 1 = .ok (.getfield 236, 3) := by decide +kernel
theorem dX10_top_4 : decode cX10_top 4 = .ok (.ifCond .ne 7, 3) := by decide +kernel
theorem dX10_top_7 : decode cX10_top 7 = .ok (.iconst (-1), 1) := by decide +kernel
theorem dX10_top_8 : decode cX10_top 8 = .ok (.goto 14, 3) := by decide +kernel
theorem dX10_top_11 : decode cX10_top 11 = .ok (.aload_n 0, 1) := by decide +kernel
theorem dX10_top_12 : decode cX10_top 12 = .ok (.getfield 84, 3) := by decide +kernel
theorem dX10_top_15 : decode cX10_top 15 = .ok (.aload_n 0, 1) := by decide +kernel
theorem dX10_top_16 : decode cX10_top 16 = .ok (.getfield 236, 3) := by decide +kernel
theorem dX10_top_19 : decode cX10_top 19 = .ok (.iconst 1, 1) := by decide +kernel
theorem dX10_top_20 : decode cX10_top 20 = .ok (.isub, 1) := by decide +kernel
theorem dX10_top_21 : decode cX10_top 21 = .ok (.iaload, 1) := by decide +kernel
theorem dX10_top_22 : decode cX10_top 22 = .ok (.ireturn, 1) := by decide +kernel
theorem dX10_opens_0 : decode cX10_opens 0 = .ok (.iload_n 1, 1) := by decide +kernel
theorem dX10_opens_1 : decode cX10_opens 1 = .ok (.bipush 9, 2) := by decide +kernel
theorem dX10_opens_3 : decode cX10_opens 3 = .ok (.if_icmp .eq 9, 3) := by decide +kernel
theorem dX10_opens_6 : decode cX10_opens 6 = .ok (.iload_n 1, 1) := by decide +kernel
theorem dX10_opens_7 : decode cX10_opens 7 = .ok (.bipush 12, 2) := by decide +kernel
theorem dX10_opens_9 : decode cX10_opens 9 = .ok (.if_icmp .ne 31, 3) := by decide +kernel
theorem dX10_opens_12 : decode cX10_opens 12 = .ok (.aload_n 0, 1) := by decide +kernel
theorem dX10_opens_13 : decode cX10_opens 13 = .ok (.getfield 239, 3) := by decide +kernel
theorem dX10_opens_16 : decode cX10_opens 16 = .ok (.bipush 10, 2) := by decide +kernel
theorem dX10_opens_18 : decode cX10_opens 18 = .ok (.if_icmp .ne 12, 3) := by decide +kernel
theorem dX10_opens_21 : decode cX10_opens 21 = .ok (.aload_n 0, 1) := by decide +kernel
theorem dX10_opens_22 : decode cX10_opens 22 = .ok (.iconst 2, 1) := by decide +kernel
theorem dX10_opens_23 : decode cX10_opens 23 = .ok (.aload_n 0, 1) := by decide +kernel
theorem dX10_opens_24 : decode cX10_opens 24 = .ok (.getfield 168, 3) := by decide +kernel
theorem dX10_opens_27 : decode cX10_opens 27 = .ok (.invokevirtual 204, 3) := by decide +kernel
theorem dX10_opens_30 : decode cX10_opens 30 = .ok (.aload_n 0, 1) := by decide +kernel
theorem dX10_opens_31 : decode cX10_opens 31 = .ok (.dup, 1) := by decide +kernel
theorem dX10_opens_32 : decode cX10_opens 32 = .ok (.getfield 239, 3) := by decide +kernel
theorem dX10_opens_35 : decode cX10_opens 35 = .ok (.iconst 1, 1) := by decide +kernel
theorem dX10_opens_36 : decode cX10_opens 36 = .ok (.iadd, 1) := by decide +kernel
theorem dX10_opens_37 : decode cX10_opens 37 = .ok (.putfield 239, 3) := by decide +kernel
theorem dX10_opens_40 : decode cX10_opens 40 = .ok (.aload_n 0, 1) := by decide +kernel
theorem dX10_opens_41 : decode cX10_opens 41 = .ok (.getfield 84, 3) := by decide +kernel
theorem dX10_opens_44 : decode cX10_opens 44 = .ok (.aload_n 0, 1) := by decide +kernel
theorem dX10_opens_45 : decode cX10_opens 45 = .ok (.getfield 236, 3) := by decide +kernel
theorem dX10_opens_48 : decode cX10_opens 48 = .ok (.iload_n 1, 1) := by decide +kernel
theorem dX10_opens_49 : decode cX10_opens 49 = .ok (.iastore, 1) := by decide +kernel
theorem dX10_opens_50 : decode cX10_opens 50 = .ok (.aload_n 0, 1) := by decide +kernel
theorem dX10_opens_51 : decode cX10_opens 51 = .ok (.dup, 1) := by decide +kernel
theorem dX10_opens_52 : decode cX10_opens 52 = .ok (.getfield 236, 3) := by decide +kernel
theorem dX10_opens_55 : decode cX10_opens 55 = .ok (.iconst 1, 1) := by decide +kernel
theorem dX10_opens_56 : decode cX10_opens 56 = .ok (.iadd, 1) := by decide +kernel
theorem dX10_opens_57 : decode cX10_opens 57 = .ok (.putfield 236, 3) := by decide +kernel
theorem dX10_opens_60 : decode cX10_opens 60 = .ok (.return_, 1) := by decide +kernel
theorem dX10_answers_0 : decode cX10_answers 0 = .ok (.aload_n 0, 1) := by decide +kernel
theorem dX10_answers_1 : decode cX10_answers 1 = .ok (.invokevirtual 242, 3) := by decide +kernel
theorem dX10_answers_4 : decode cX10_answers 4 = .ok (.iload_n 1, 1) := by decide +kernel
theorem dX10_answers_5 : decode cX10_answers 5 = .ok (.if_icmp .ne 49, 3) := by decide +kernel
theorem dX10_answers_8 : decode cX10_answers 8 = .ok (.aload_n 0, 1) := by decide +kernel
theorem dX10_answers_9 : decode cX10_answers 9 = .ok (.getfield 165, 3) := by decide +kernel
theorem dX10_answers_12 : decode cX10_answers 12 = .ok (.ifCond .ne 42, 3) := by decide +kernel
theorem dX10_answers_15 : decode cX10_answers 15 = .ok (.aload_n 0, 1) := by decide +kernel
theorem dX10_answers_16 : decode cX10_answers 16 = .ok (.iload_n 1, 1) := by decide +kernel
theorem dX10_answers_17 : decode cX10_answers 17 = .ok (.iconst 0, 1) := by decide +kernel
theorem dX10_answers_18 : decode cX10_answers 18 = .ok (.invokevirtual 220, 3) := by decide +kernel
theorem dX10_answers_21 : decode cX10_answers 21 = .ok (.aload_n 0, 1) := by decide +kernel
theorem dX10_answers_22 : decode cX10_answers 22 = .ok (.dup, 1) := by decide +kernel
theorem dX10_answers_23 : decode cX10_answers 23 = .ok (.getfield 236, 3) := by decide +kernel
theorem dX10_answers_26 : decode cX10_answers 26 = .ok (.iconst 1, 1) := by decide +kernel
theorem dX10_answers_27 : decode cX10_answers 27 = .ok (.isub, 1) := by decide +kernel
theorem dX10_answers_28 : decode cX10_answers 28 = .ok (.putfield 236, 3) := by decide +kernel
theorem dX10_answers_31 : decode cX10_answers 31 = .ok (.aload_n 0, 1) := by decide +kernel
theorem dX10_answers_32 : decode cX10_answers 32 = .ok (.dup, 1) := by decide +kernel
theorem dX10_answers_33 : decode cX10_answers 33 = .ok (.getfield 239, 3) := by decide +kernel
theorem dX10_answers_36 : decode cX10_answers 36 = .ok (.iload_n 1, 1) := by decide +kernel
theorem dX10_answers_37 : decode cX10_answers 37 = .ok (.bipush 9, 2) := by decide +kernel
theorem dX10_answers_39 : decode cX10_answers 39 = .ok (.if_icmp .ne 7, 3) := by decide +kernel
theorem dX10_answers_42 : decode cX10_answers 42 = .ok (.iconst 1, 1) := by decide +kernel
theorem dX10_answers_43 : decode cX10_answers 43 = .ok (.goto 4, 3) := by decide +kernel
theorem dX10_answers_46 : decode cX10_answers 46 = .ok (.iconst 0, 1) := by decide +kernel
theorem dX10_answers_47 : decode cX10_answers 47 = .ok (.isub, 1) := by decide +kernel
theorem dX10_answers_48 : decode cX10_answers 48 = .ok (.putfield 239, 3) := by decide +kernel
theorem dX10_answers_51 : decode cX10_answers 51 = .ok (.goto (-51), 3) := by decide +kernel
theorem dX10_answers_54 : decode cX10_answers 54 = .ok (.return_, 1) := by decide +kernel
theorem dX10_fact_0 : decode cX10_fact 0 = .ok (.aload_n 0, 1) := by decide +kernel
theorem dX10_fact_1 : decode cX10_fact 1 = .ok (.invokevirtual 188, 3) := by decide +kernel
theorem dX10_fact_4 : decode cX10_fact 4 = .ok (.aload_n 0, 1) := by decide +kernel
theorem dX10_fact_5 : decode cX10_fact 5 = .ok (.ldc 245, 2) := by decide +kernel
theorem dX10_fact_7 : decode cX10_fact 7 = .ok (.invokevirtual 191, 3) := by decide +kernel
theorem dX10_fact_10 : decode cX10_fact 10 = .ok (.ifCond .eq 21, 3) := by decide +kernel
theorem dX10_fact_13 : decode cX10_fact 13 = .ok (.aload_n 0, 1) := by decide +kernel
theorem dX10_fact_14 : decode cX10_fact 14 = .ok (.bipush 9, 2) := by decide +kernel
theorem dX10_fact_16 : decode cX10_fact 16 = .ok (.invokevirtual 247, 3) := by decide +kernel
theorem dX10_fact_19 : decode cX10_fact 19 = .ok (.aload_n 0, 1) := by decide +kernel
theorem dX10_fact_20 : decode cX10_fact 20 = .ok (.dup, 1) := by decide +kernel
theorem dX10_fact_21 : decode cX10_fact 21 = .ok (.getfield 168, 3) := by decide +kernel
theorem dX10_fact_24 : decode cX10_fact 24 = .ok (.iconst 3, 1) := by decide +kernel
theorem dX10_fact_25 : decode cX10_fact 25 = .ok (.iadd, 1) := by decide +kernel
theorem dX10_fact_26 : decode cX10_fact 26 = .ok (.putfield 168, 3) := by decide +kernel
theorem dX10_fact_29 : decode cX10_fact 29 = .ok (.iconst 0, 1) := by decide +kernel
theorem dX10_fact_30 : decode cX10_fact 30 = .ok (.ireturn, 1) := by decide +kernel
theorem dX10_fact_31 : decode cX10_fact 31 = .ok (.aload_n 0, 1) := by decide +kernel
theorem dX10_fact_32 : decode cX10_fact 32 = .ok (.invokevirtual 171, 3) := by decide +kernel
theorem dX10_fact_35 : decode cX10_fact 35 = .ok (.bipush 91, 2) := by decide +kernel
theorem dX10_fact_37 : decode cX10_fact 37 = .ok (.if_icmp .ne 21, 3) := by decide +kernel
theorem dX10_fact_40 : decode cX10_fact 40 = .ok (.aload_n 0, 1) := by decide +kernel
theorem dX10_fact_41 : decode cX10_fact 41 = .ok (.bipush 12, 2) := by decide +kernel
theorem dX10_fact_43 : decode cX10_fact 43 = .ok (.invokevirtual 247, 3) := by decide +kernel
theorem dX10_fact_46 : decode cX10_fact 46 = .ok (.aload_n 0, 1) := by decide +kernel
theorem dX10_fact_47 : decode cX10_fact 47 = .ok (.dup, 1) := by decide +kernel
theorem dX10_fact_48 : decode cX10_fact 48 = .ok (.getfield 168, 3) := by decide +kernel
theorem dX10_fact_51 : decode cX10_fact 51 = .ok (.iconst 1, 1) := by decide +kernel
theorem dX10_fact_52 : decode cX10_fact 52 = .ok (.iadd, 1) := by decide +kernel
theorem dX10_fact_53 : decode cX10_fact 53 = .ok (.putfield 168, 3) := by decide +kernel
theorem dX10_fact_56 : decode cX10_fact 56 = .ok (.iconst 0, 1) := by decide +kernel
theorem dX10_fact_57 : decode cX10_fact 57 = .ok (.ireturn, 1) := by decide +kernel
theorem dX10_fact_58 : decode cX10_fact 58 = .ok (.aload_n 0, 1) := by decide +kernel
theorem dX10_fact_59 : decode cX10_fact 59 = .ok (.invokevirtual 250, 3) := by decide +kernel
theorem dX10_fact_62 : decode cX10_fact 62 = .ok (.iconst 1, 1) := by decide +kernel
theorem dX10_fact_63 : decode cX10_fact 63 = .ok (.ireturn, 1) := by decide +kernel
theorem dX10_test_0 : decode cX10_test 0 = .ok (.aload_n 0, 1) := by decide +kernel
theorem dX10_test_1 : decode cX10_test 1 = .ok (.iconst 0, 1) := by decide +kernel
theorem dX10_test_2 : decode cX10_test 2 = .ok (.putfield 236, 3) := by decide +kernel
theorem dX10_test_5 : decode cX10_test 5 = .ok (.iconst 1, 1) := by decide +kernel
theorem dX10_test_6 : decode cX10_test 6 = .ok (.istore_n 1, 1) := by decide +kernel
theorem dX10_test_7 : decode cX10_test 7 = .ok (.iconst 1, 1) := by decide +kernel
theorem dX10_test_8 : decode cX10_test 8 = .ok (.istore_n 2, 1) := by decide +kernel
theorem dX10_test_9 : decode cX10_test 9 = .ok (.iload_n 2, 1) := by decide +kernel
theorem dX10_test_10 : decode cX10_test 10 = .ok (.ifCond .eq 192, 3) := by decide +kernel
theorem dX10_test_13 : decode cX10_test 13 = .ok (.aload_n 0, 1) := by decide +kernel
theorem dX10_test_14 : decode cX10_test 14 = .ok (.getfield 165, 3) := by decide +kernel
theorem dX10_test_17 : decode cX10_test 17 = .ok (.ifCond .ne 185, 3) := by decide +kernel
theorem dX10_test_20 : decode cX10_test 20 = .ok (.iload_n 1, 1) := by decide +kernel
theorem dX10_test_21 : decode cX10_test 21 = .ok (.ifCond .eq 19, 3) := by decide +kernel
theorem dX10_test_24 : decode cX10_test 24 = .ok (.aload_n 0, 1) := by decide +kernel
theorem dX10_test_25 : decode cX10_test 25 = .ok (.invokevirtual 253, 3) := by decide +kernel
theorem dX10_test_28 : decode cX10_test 28 = .ok (.ifCond .ne 7, 3) := by decide +kernel
theorem dX10_test_31 : decode cX10_test 31 = .ok (.iconst 1, 1) := by decide +kernel
theorem dX10_test_32 : decode cX10_test 32 = .ok (.goto 4, 3) := by decide +kernel
theorem dX10_test_35 : decode cX10_test 35 = .ok (.iconst 0, 1) := by decide +kernel
theorem dX10_test_36 : decode cX10_test 36 = .ok (.istore_n 1, 1) := by decide +kernel
theorem dX10_test_37 : decode cX10_test 37 = .ok (.goto (-28), 3) := by decide +kernel
theorem dX10_test_40 : decode cX10_test 40 = .ok (.aload_n 0, 1) := by decide +kernel
theorem dX10_test_41 : decode cX10_test 41 = .ok (.bipush 9, 2) := by decide +kernel
theorem dX10_test_43 : decode cX10_test 43 = .ok (.invokevirtual 256, 3) := by decide +kernel
theorem dX10_test_46 : decode cX10_test 46 = .ok (.aload_n 0, 1) := by decide +kernel
theorem dX10_test_47 : decode cX10_test 47 = .ok (.invokevirtual 188, 3) := by decide +kernel
theorem dX10_test_50 : decode cX10_test 50 = .ok (.aload_n 0, 1) := by decide +kernel
theorem dX10_test_51 : decode cX10_test 51 = .ok (.ldc_w 259, 3) := by decide +kernel
theorem dX10_test_54 : decode cX10_test 54 = .ok (.invokevirtual 191, 3) := by decide +kernel
theorem dX10_test_57 : decode cX10_test 57 = .ok (.istore_n 3, 1) := by decide +kernel
theorem dX10_test_58 : decode cX10_test 58 = .ok (.aload_n 0, 1) := by decide +kernel
theorem dX10_test_59 : decode cX10_test 59 = .ok (.ldc_w 261, 3) := by decide +kernel
theorem dX10_test_62 : decode cX10_test 62 = .ok (.invokevirtual 191, 3) := by decide +kernel
theorem dX10_test_65 : decode cX10_test 65 = .ok (.istore 4, 2) := by decide +kernel
theorem dX10_test_67 : decode cX10_test 67 = .ok (.aload_n 0, 1) := by decide +kernel
theorem dX10_test_68 : decode cX10_test 68 = .ok (.bipush 10, 2) := by decide +kernel
theorem dX10_test_70 : decode cX10_test 70 = .ok (.invokevirtual 256, 3) := by decide +kernel
theorem dX10_test_73 : decode cX10_test 73 = .ok (.iload_n 3, 1) := by decide +kernel
theorem dX10_test_74 : decode cX10_test 74 = .ok (.ifCond .ne 8, 3) := by decide +kernel
theorem dX10_test_77 : decode cX10_test 77 = .ok (.iload 4, 2) := by decide +kernel
theorem dX10_test_79 : decode cX10_test 79 = .ok (.ifCond .eq 52, 3) := by decide +kernel
theorem dX10_test_82 : decode cX10_test 82 = .ok (.iload 4, 2) := by decide +kernel
theorem dX10_test_84 : decode cX10_test 84 = .ok (.ifCond .eq 9, 3) := by decide +kernel
theorem dX10_test_87 : decode cX10_test 87 = .ok (.aload_n 0, 1) := by decide +kernel
theorem dX10_test_88 : decode cX10_test 88 = .ok (.bipush 11, 2) := by decide +kernel
theorem dX10_test_90 : decode cX10_test 90 = .ok (.invokevirtual 256, 3) := by decide +kernel
theorem dX10_test_93 : decode cX10_test 93 = .ok (.aload_n 0, 1) := by decide +kernel
theorem dX10_test_94 : decode cX10_test 94 = .ok (.iload_n 3, 1) := by decide +kernel
theorem dX10_test_95 : decode cX10_test 95 = .ok (.ifCond .eq 8, 3) := by decide +kernel
theorem dX10_test_98 : decode cX10_test 98 = .ok (.bipush 10, 2) := by decide +kernel
theorem dX10_test_100 : decode cX10_test 100 = .ok (.goto 5, 3) := by decide +kernel
theorem dX10_test_103 : decode cX10_test 103 = .ok (.bipush 11, 2) := by decide +kernel
theorem dX10_test_105 : decode cX10_test 105 = .ok (.invokevirtual 247, 3) := by decide +kernel
theorem dX10_test_108 : decode cX10_test 108 = .ok (.aload_n 0, 1) := by decide +kernel
theorem dX10_test_109 : decode cX10_test 109 = .ok (.dup, 1) := by decide +kernel
theorem dX10_test_110 : decode cX10_test 110 = .ok (.getfield 168, 3) := by decide +kernel
theorem dX10_test_113 : decode cX10_test 113 = .ok (.iload_n 3, 1) := by decide +kernel
theorem dX10_test_114 : decode cX10_test 114 = .ok (.ifCond .eq 7, 3) := by decide +kernel
theorem dX10_test_117 : decode cX10_test 117 = .ok (.iconst 3, 1) := by decide +kernel
theorem dX10_test_118 : decode cX10_test 118 = .ok (.goto 4, 3) := by decide +kernel
theorem dX10_test_121 : decode cX10_test 121 = .ok (.iconst 2, 1) := by decide +kernel
theorem dX10_test_122 : decode cX10_test 122 = .ok (.iadd, 1) := by decide +kernel
theorem dX10_test_123 : decode cX10_test 123 = .ok (.putfield 168, 3) := by decide +kernel
theorem dX10_test_126 : decode cX10_test 126 = .ok (.iconst 1, 1) := by decide +kernel
theorem dX10_test_127 : decode cX10_test 127 = .ok (.istore_n 1, 1) := by decide +kernel
theorem dX10_test_128 : decode cX10_test 128 = .ok (.goto 71, 3) := by decide +kernel
theorem dX10_test_131 : decode cX10_test 131 = .ok (.aload_n 0, 1) := by decide +kernel
theorem dX10_test_132 : decode cX10_test 132 = .ok (.bipush 11, 2) := by decide +kernel
theorem dX10_test_134 : decode cX10_test 134 = .ok (.invokevirtual 256, 3) := by decide +kernel
theorem dX10_test_137 : decode cX10_test 137 = .ok (.aload_n 0, 1) := by decide +kernel
theorem dX10_test_138 : decode cX10_test 138 = .ok (.invokevirtual 242, 3) := by decide +kernel
theorem dX10_test_141 : decode cX10_test 141 = .ok (.bipush 12, 2) := by decide +kernel
theorem dX10_test_143 : decode cX10_test 143 = .ok (.if_icmp .ne 54, 3) := by decide +kernel
theorem dX10_test_146 : decode cX10_test 146 = .ok (.aload_n 0, 1) := by decide +kernel
theorem dX10_test_147 : decode cX10_test 147 = .ok (.invokevirtual 171, 3) := by decide +kernel
theorem dX10_test_150 : decode cX10_test 150 = .ok (.bipush 93, 2) := by decide +kernel
theorem dX10_test_152 : decode cX10_test 152 = .ok (.if_icmp .eq 12, 3) := by decide +kernel
theorem dX10_test_155 : decode cX10_test 155 = .ok (.aload_n 0, 1) := by decide +kernel
theorem dX10_test_156 : decode cX10_test 156 = .ok (.iconst 0, 1) := by decide +kernel
theorem dX10_test_157 : decode cX10_test 157 = .ok (.aload_n 0, 1) := by decide +kernel
theorem dX10_test_158 : decode cX10_test 158 = .ok (.getfield 168, 3) := by decide +kernel
theorem dX10_test_161 : decode cX10_test 161 = .ok (.invokevirtual 204, 3) := by decide +kernel
theorem dX10_test_164 : decode cX10_test 164 = .ok (.aload_n 0, 1) := by decide +kernel
theorem dX10_test_165 : decode cX10_test 165 = .ok (.dup, 1) := by decide +kernel
theorem dX10_test_166 : decode cX10_test 166 = .ok (.getfield 168, 3) := by decide +kernel
theorem dX10_test_169 : decode cX10_test 169 = .ok (.iconst 1, 1) := by decide +kernel
theorem dX10_test_170 : decode cX10_test 170 = .ok (.iadd, 1) := by decide +kernel
theorem dX10_test_171 : decode cX10_test 171 = .ok (.putfield 168, 3) := by decide +kernel
theorem dX10_test_174 : decode cX10_test 174 = .ok (.aload_n 0, 1) := by decide +kernel
theorem dX10_test_175 : decode cX10_test 175 = .ok (.dup, 1) := by decide +kernel
theorem dX10_test_176 : decode cX10_test 176 = .ok (.getfield 236, 3) := by decide +kernel
theorem dX10_test_179 : decode cX10_test 179 = .ok (.iconst 1, 1) := by decide +kernel
theorem dX10_test_180 : decode cX10_test 180 = .ok (.isub, 1) := by decide +kernel
theorem dX10_test_181 : decode cX10_test 181 = .ok (.putfield 236, 3) := by decide +kernel
theorem dX10_test_184 : decode cX10_test 184 = .ok (.aload_n 0, 1) := by decide +kernel
theorem dX10_test_185 : decode cX10_test 185 = .ok (.dup, 1) := by decide +kernel
theorem dX10_test_186 : decode cX10_test 186 = .ok (.getfield 239, 3) := by decide +kernel
theorem dX10_test_189 : decode cX10_test 189 = .ok (.iconst 1, 1) := by decide +kernel
theorem dX10_test_190 : decode cX10_test 190 = .ok (.isub, 1) := by decide +kernel
theorem dX10_test_191 : decode cX10_test 191 = .ok (.putfield 239, 3) := by decide +kernel
theorem dX10_test_194 : decode cX10_test 194 = .ok (.goto 5, 3) := by decide +kernel
theorem dX10_test_197 : decode cX10_test 197 = .ok (.iconst 0, 1) := by decide +kernel
theorem dX10_test_198 : decode cX10_test 198 = .ok (.istore_n 2, 1) := by decide +kernel
theorem dX10_test_199 : decode cX10_test 199 = .ok (.goto (-190), 3) := by decide +kernel
theorem dX10_test_202 : decode cX10_test 202 = .ok (.return_, 1) := by decide +kernel
theorem dX10_amount_0 : decode cX10_amount 0 = .ok (.aload_n 0, 1) := by decide +kernel
theorem dX10_amount_1 : decode cX10_amount 1 = .ok (.invokevirtual 188, 3) := by decide +kernel
theorem dX10_amount_4 : decode cX10_amount 4 = .ok (.aload_n 0, 1) := by decide +kernel
theorem dX10_amount_5 : decode cX10_amount 5 = .ok (.getfield 168, 3) := by decide +kernel
theorem dX10_amount_8 : decode cX10_amount 8 = .ok (.istore_n 3, 1) := by decide +kernel
theorem dX10_amount_9 : decode cX10_amount 9 = .ok (.aload_n 0, 1) := by decide +kernel
theorem dX10_amount_10 : decode cX10_amount 10 = .ok (.getfield 165, 3) := by decide +kernel
theorem dX10_amount_13 : decode cX10_amount 13 = .ok (.ifCond .ne 12, 3) := by decide +kernel
theorem dX10_amount_16 : decode cX10_amount 16 = .ok (.aload_n 0, 1) := by decide +kernel
theorem dX10_amount_17 : decode cX10_amount 17 = .ok (.ldc 212, 2) := by decide +kernel
theorem dX10_amount_19 : decode cX10_amount 19 = .ok (.invokevirtual 213, 3) := by decide +kernel
theorem dX10_amount_22 : decode cX10_amount 22 = .ok (.goto 4, 3) := by decide +kernel
theorem dX10_amount_25 : decode cX10_amount 25 = .ok (.iconst 0, 1) := by decide +kernel
theorem dX10_amount_26 : decode cX10_amount 26 = .ok (.istore 4, 2) := by decide +kernel
theorem dX10_amount_28 : decode cX10_amount 28 = .ok (.aload_n 0, 1) := by decide +kernel
theorem dX10_amount_29 : decode cX10_amount 29 = .ok (.getfield 165, 3) := by decide +kernel
theorem dX10_amount_32 : decode cX10_amount 32 = .ok (.ifCond .ne 22, 3) := by decide +kernel
theorem dX10_amount_35 : decode cX10_amount 35 = .ok (.iload 4, 2) := by decide +kernel
theorem dX10_amount_37 : decode cX10_amount 37 = .ok (.i2l, 1) := by decide +kernel
theorem dX10_amount_38 : decode cX10_amount 38 = .ok (.iload_n 1, 1) := by decide +kernel
theorem dX10_amount_39 : decode cX10_amount 39 = .ok (.i2l, 1) := by decide +kernel
theorem dX10_amount_40 : decode cX10_amount 40 = .ok (.iload_n 2, 1) := by decide +kernel
theorem dX10_amount_41 : decode cX10_amount 41 = .ok (.i2l, 1) := by decide +kernel
theorem dX10_amount_42 : decode cX10_amount 42 = .ok (.invokestatic 131, 3) := by decide +kernel
theorem dX10_amount_45 : decode cX10_amount 45 = .ok (.ifCond .ne 9, 3) := by decide +kernel
theorem dX10_amount_48 : decode cX10_amount 48 = .ok (.aload_n 0, 1) := by decide +kernel
theorem dX10_amount_49 : decode cX10_amount 49 = .ok (.iconst 1, 1) := by decide +kernel
theorem dX10_amount_50 : decode cX10_amount 50 = .ok (.iload_n 3, 1) := by decide +kernel
theorem dX10_amount_51 : decode cX10_amount 51 = .ok (.invokevirtual 204, 3) := by decide +kernel
theorem dX10_amount_54 : decode cX10_amount 54 = .ok (.iload 4, 2) := by decide +kernel
theorem dX10_amount_56 : decode cX10_amount 56 = .ok (.ireturn, 1) := by decide +kernel
theorem dX10_barWord_0 : decode cX10_barWord 0 = .ok (.iload_n 0, 1) := by decide +kernel
theorem dX10_barWord_1 : decode cX10_barWord 1 = .ok (.tableswitch 37 0 2 #[27, 31, 34], 27) := by decide +kernel
theorem dX10_barWord_28 : decode cX10_barWord 28 = .ok (.ldc_w 263, 3) := by decide +kernel
theorem dX10_barWord_31 : decode cX10_barWord 31 = .ok (.areturn, 1) := by decide +kernel
theorem dX10_barWord_32 : decode cX10_barWord 32 = .ok (.ldc 148, 2) := by decide +kernel
theorem dX10_barWord_34 : decode cX10_barWord 34 = .ok (.areturn, 1) := by decide +kernel
theorem dX10_barWord_35 : decode cX10_barWord 35 = .ok (.ldc 146, 2) := by decide +kernel
theorem dX10_barWord_37 : decode cX10_barWord 37 = .ok (.areturn, 1) := by decide +kernel
theorem dX10_barWord_38 : decode cX10_barWord 38 = .ok (.ldc_w 265, 3) := by decide +kernel
theorem dX10_barWord_41 : decode cX10_barWord 41 = .ok (.areturn, 1) := by decide +kernel
theorem dX10_barPart_0 : decode cX10_barPart 0 = .ok (.iload_n 1, 1) := by decide +kernel
theorem dX10_barPart_1 : decode cX10_barPart 1 = .ok (.tableswitch 151 0 2 #[27, 55, 105], 27) := by decide +kernel
theorem dX10_barPart_28 : decode cX10_barPart 28 = .ok (.aload_n 0, 1) := by decide +kernel
theorem dX10_barPart_29 : decode cX10_barPart 29 = .ok (.getfield 43, 3) := by decide +kernel
theorem dX10_barPart_32 : decode cX10_barPart 32 = .ok (.iconst 0, 1) := by decide +kernel
theorem dX10_barPart_33 : decode cX10_barPart 33 = .ok (.aload_n 0, 1) := by decide +kernel
theorem dX10_barPart_34 : decode cX10_barPart 34 = .ok (.iconst 1, 1) := by decide +kernel
theorem dX10_barPart_35 : decode cX10_barPart 35 = .ok (.bipush 60, 2) := by decide +kernel
theorem dX10_barPart_37 : decode cX10_barPart 37 = .ok (.invokevirtual 266, 3) := by decide +kernel
theorem dX10_barPart_40 : decode cX10_barPart 40 = .ok (.iastore, 1) := by decide +kernel
theorem dX10_barPart_41 : decode cX10_barPart 41 = .ok (.aload_n 0, 1) := by decide +kernel
theorem dX10_barPart_42 : decode cX10_barPart 42 = .ok (.getfield 43, 3) := by decide +kernel
theorem dX10_barPart_45 : decode cX10_barPart 45 = .ok (.iconst 1, 1) := by decide +kernel
theorem dX10_barPart_46 : decode cX10_barPart 46 = .ok (.aload_n 0, 1) := by decide +kernel
theorem dX10_barPart_47 : decode cX10_barPart 47 = .ok (.iconst 1, 1) := by decide +kernel
theorem dX10_barPart_48 : decode cX10_barPart 48 = .ok (.iconst 3, 1) := by decide +kernel
theorem dX10_barPart_49 : decode cX10_barPart 49 = .ok (.invokevirtual 266, 3) := by decide +kernel
theorem dX10_barPart_52 : decode cX10_barPart 52 = .ok (.iastore, 1) := by decide +kernel
theorem dX10_barPart_53 : decode cX10_barPart 53 = .ok (.goto 146, 3) := by decide +kernel
theorem dX10_barPart_56 : decode cX10_barPart 56 = .ok (.aload_n 0, 1) := by decide +kernel
theorem dX10_barPart_57 : decode cX10_barPart 57 = .ok (.getfield 43, 3) := by decide +kernel
theorem dX10_barPart_60 : decode cX10_barPart 60 = .ok (.iconst 2, 1) := by decide +kernel
theorem dX10_barPart_61 : decode cX10_barPart 61 = .ok (.iaload, 1) := by decide +kernel
theorem dX10_barPart_62 : decode cX10_barPart 62 = .ok (.istore_n 2, 1) := by decide +kernel
theorem dX10_barPart_63 : decode cX10_barPart 63 = .ok (.iconst 0, 1) := by decide +kernel
theorem dX10_barPart_64 : decode cX10_barPart 64 = .ok (.istore_n 3, 1) := by decide +kernel
theorem dX10_barPart_65 : decode cX10_barPart 65 = .ok (.iload_n 3, 1) := by decide +kernel
theorem dX10_barPart_66 : decode cX10_barPart 66 = .ok (.iconst 3, 1) := by decide +kernel
theorem dX10_barPart_67 : decode cX10_barPart 67 = .ok (.if_icmp .ge 26, 3) := by decide +kernel
theorem dX10_barPart_70 : decode cX10_barPart 70 = .ok (.aload_n 0, 1) := by decide +kernel
theorem dX10_barPart_71 : decode cX10_barPart 71 = .ok (.getfield 46, 3) := by decide +kernel
theorem dX10_barPart_74 : decode cX10_barPart 74 = .ok (.iconst 3, 1) := by decide +kernel
theorem dX10_barPart_75 : decode cX10_barPart 75 = .ok (.iload_n 2, 1) := by decide +kernel
theorem dX10_barPart_76 : decode cX10_barPart 76 = .ok (.imul, 1) := by decide +kernel
theorem dX10_barPart_77 : decode cX10_barPart 77 = .ok (.iload_n 3, 1) := by decide +kernel
theorem dX10_barPart_78 : decode cX10_barPart 78 = .ok (.iadd, 1) := by decide +kernel
theorem dX10_barPart_79 : decode cX10_barPart 79 = .ok (.aload_n 0, 1) := by decide +kernel
theorem dX10_barPart_80 : decode cX10_barPart 80 = .ok (.iconst 0, 1) := by decide +kernel
theorem dX10_barPart_81 : decode cX10_barPart 81 = .ok (.bipush 9, 2) := by decide +kernel
theorem dX10_barPart_83 : decode cX10_barPart 83 = .ok (.invokevirtual 266, 3) := by decide +kernel
theorem dX10_barPart_86 : decode cX10_barPart 86 = .ok (.iastore, 1) := by decide +kernel
theorem dX10_barPart_87 : decode cX10_barPart 87 = .ok (.iinc 3 1, 3) := by decide +kernel
theorem dX10_barPart_90 : decode cX10_barPart 90 = .ok (.goto (-25), 3) := by decide +kernel
theorem dX10_barPart_93 : decode cX10_barPart 93 = .ok (.aload_n 0, 1) := by decide +kernel
theorem dX10_barPart_94 : decode cX10_barPart 94 = .ok (.getfield 43, 3) := by decide +kernel
theorem dX10_barPart_97 : decode cX10_barPart 97 = .ok (.iconst 2, 1) := by decide +kernel
theorem dX10_barPart_98 : decode cX10_barPart 98 = .ok (.dup2, 1) := by decide +kernel
theorem dX10_barPart_99 : decode cX10_barPart 99 = .ok (.iaload, 1) := by decide +kernel
theorem dX10_barPart_100 : decode cX10_barPart 100 = .ok (.iconst 1, 1) := by decide +kernel
theorem dX10_barPart_101 : decode cX10_barPart 101 = .ok (.iadd, 1) := by decide +kernel
theorem dX10_barPart_102 : decode cX10_barPart 102 = .ok (.iastore, 1) := by decide +kernel
theorem dX10_barPart_103 : decode cX10_barPart 103 = .ok (.goto 96, 3) := by decide +kernel
theorem dX10_barPart_106 : decode cX10_barPart 106 = .ok (.aload_n 0, 1) := by decide +kernel
theorem dX10_barPart_107 : decode cX10_barPart 107 = .ok (.getfield 43, 3) := by decide +kernel
theorem dX10_barPart_110 : decode cX10_barPart 110 = .ok (.iconst 3, 1) := by decide +kernel
theorem dX10_barPart_111 : decode cX10_barPart 111 = .ok (.iaload, 1) := by decide +kernel
theorem dX10_barPart_112 : decode cX10_barPart 112 = .ok (.istore_n 2, 1) := by decide +kernel
theorem dX10_barPart_113 : decode cX10_barPart 113 = .ok (.aload_n 0, 1) := by decide +kernel
theorem dX10_barPart_114 : decode cX10_barPart 114 = .ok (.getfield 49, 3) := by decide +kernel
theorem dX10_barPart_117 : decode cX10_barPart 117 = .ok (.iload_n 2, 1) := by decide +kernel
theorem dX10_barPart_118 : decode cX10_barPart 118 = .ok (.aload_n 0, 1) := by decide +kernel
theorem dX10_barPart_119 : decode cX10_barPart 119 = .ok (.iconst 0, 1) := by decide +kernel
theorem dX10_barPart_120 : decode cX10_barPart 120 = .ok (.bipush 99, 2) := by decide +kernel
theorem dX10_barPart_122 : decode cX10_barPart 122 = .ok (.invokevirtual 266, 3) := by decide +kernel
theorem dX10_barPart_125 : decode cX10_barPart 125 = .ok (.iastore, 1) := by decide +kernel
theorem dX10_barPart_126 : decode cX10_barPart 126 = .ok (.aload_n 0, 1) := by decide +kernel
theorem dX10_barPart_127 : decode cX10_barPart 127 = .ok (.getfield 52, 3) := by decide +kernel
theorem dX10_barPart_130 : decode cX10_barPart 130 = .ok (.iload_n 2, 1) := by decide +kernel
theorem dX10_barPart_131 : decode cX10_barPart 131 = .ok (.aload_n 0, 1) := by decide +kernel
theorem dX10_barPart_132 : decode cX10_barPart 132 = .ok (.iconst 0, 1) := by decide +kernel
theorem dX10_barPart_133 : decode cX10_barPart 133 = .ok (.bipush 60, 2) := by decide +kernel
theorem dX10_barPart_135 : decode cX10_barPart 135 = .ok (.invokevirtual 266, 3) := by decide +kernel
theorem dX10_barPart_138 : decode cX10_barPart 138 = .ok (.iastore, 1) := by decide +kernel
theorem dX10_barPart_139 : decode cX10_barPart 139 = .ok (.aload_n 0, 1) := by decide +kernel
theorem dX10_barPart_140 : decode cX10_barPart 140 = .ok (.getfield 43, 3) := by decide +kernel
theorem dX10_barPart_143 : decode cX10_barPart 143 = .ok (.iconst 3, 1) := by decide +kernel
theorem dX10_barPart_144 : decode cX10_barPart 144 = .ok (.dup2, 1) := by decide +kernel
theorem dX10_barPart_145 : decode cX10_barPart 145 = .ok (.iaload, 1) := by decide +kernel
theorem dX10_barPart_146 : decode cX10_barPart 146 = .ok (.iconst 1, 1) := by decide +kernel
theorem dX10_barPart_147 : decode cX10_barPart 147 = .ok (.iadd, 1) := by decide +kernel
theorem dX10_barPart_148 : decode cX10_barPart 148 = .ok (.iastore, 1) := by decide +kernel
theorem dX10_barPart_149 : decode cX10_barPart 149 = .ok (.goto 50, 3) := by decide +kernel
theorem dX10_barPart_152 : decode cX10_barPart 152 = .ok (.aload_n 0, 1) := by decide +kernel
theorem dX10_barPart_153 : decode cX10_barPart 153 = .ok (.iconst 0, 1) := by decide +kernel
theorem dX10_barPart_154 : decode cX10_barPart 154 = .ok (.aload_n 0, 1) := by decide +kernel
theorem dX10_barPart_155 : decode cX10_barPart 155 = .ok (.getfield 43, 3) := by decide +kernel
theorem dX10_barPart_158 : decode cX10_barPart 158 = .ok (.iconst 3, 1) := by decide +kernel
theorem dX10_barPart_159 : decode cX10_barPart 159 = .ok (.iaload, 1) := by decide +kernel
theorem dX10_barPart_160 : decode cX10_barPart 160 = .ok (.iconst 1, 1) := by decide +kernel
theorem dX10_barPart_161 : decode cX10_barPart 161 = .ok (.isub, 1) := by decide +kernel
theorem dX10_barPart_162 : decode cX10_barPart 162 = .ok (.invokevirtual 266, 3) := by decide +kernel
theorem dX10_barPart_165 : decode cX10_barPart 165 = .ok (.istore_n 2, 1) := by decide +kernel
theorem dX10_barPart_166 : decode cX10_barPart 166 = .ok (.aload_n 0, 1) := by decide +kernel
theorem dX10_barPart_167 : decode cX10_barPart 167 = .ok (.iconst 0, 1) := by decide +kernel
theorem dX10_barPart_168 : decode cX10_barPart 168 = .ok (.aload_n 0, 1) := by decide +kernel
theorem dX10_barPart_169 : decode cX10_barPart 169 = .ok (.getfield 43, 3) := by decide +kernel
theorem dX10_barPart_172 : decode cX10_barPart 172 = .ok (.iconst 2, 1) := by decide +kernel
theorem dX10_barPart_173 : decode cX10_barPart 173 = .ok (.iaload, 1) := by decide +kernel
theorem dX10_barPart_174 : decode cX10_barPart 174 = .ok (.iconst 1, 1) := by decide +kernel
theorem dX10_barPart_175 : decode cX10_barPart 175 = .ok (.isub, 1) := by decide +kernel
theorem dX10_barPart_176 : decode cX10_barPart 176 = .ok (.invokevirtual 266, 3) := by decide +kernel
theorem dX10_barPart_179 : decode cX10_barPart 179 = .ok (.istore_n 3, 1) := by decide +kernel
theorem dX10_barPart_180 : decode cX10_barPart 180 = .ok (.aload_n 0, 1) := by decide +kernel
theorem dX10_barPart_181 : decode cX10_barPart 181 = .ok (.getfield 165, 3) := by decide +kernel
theorem dX10_barPart_184 : decode cX10_barPart 184 = .ok (.ifCond .ne 15, 3) := by decide +kernel
theorem dX10_barPart_187 : decode cX10_barPart 187 = .ok (.aload_n 0, 1) := by decide +kernel
theorem dX10_barPart_188 : decode cX10_barPart 188 = .ok (.getfield 55, 3) := by decide +kernel
theorem dX10_barPart_191 : decode cX10_barPart 191 = .ok (.iload_n 2, 1) := by decide +kernel
theorem dX10_barPart_192 : decode cX10_barPart 192 = .ok (.dup2, 1) := by decide +kernel
theorem dX10_barPart_193 : decode cX10_barPart 193 = .ok (.iaload, 1) := by decide +kernel
theorem dX10_barPart_194 : decode cX10_barPart 194 = .ok (.iconst 1, 1) := by decide +kernel
theorem dX10_barPart_195 : decode cX10_barPart 195 = .ok (.iload_n 3, 1) := by decide +kernel
theorem dX10_barPart_196 : decode cX10_barPart 196 = .ok (.ishl, 1) := by decide +kernel
theorem dX10_barPart_197 : decode cX10_barPart 197 = .ok (.ior, 1) := by decide +kernel
theorem dX10_barPart_198 : decode cX10_barPart 198 = .ok (.iastore, 1) := by decide +kernel
theorem dX10_barPart_199 : decode cX10_barPart 199 = .ok (.return_, 1) := by decide +kernel
theorem dX10_isFull_0 : decode cX10_isFull 0 = .ok (.iload_n 2, 1) := by decide +kernel
theorem dX10_isFull_1 : decode cX10_isFull 1 = .ok (.bipush 40, 2) := by decide +kernel
theorem dX10_isFull_3 : decode cX10_isFull 3 = .ok (.if_icmp .eq 24, 3) := by decide +kernel
theorem dX10_isFull_6 : decode cX10_isFull 6 = .ok (.iload_n 1, 1) := by decide +kernel
theorem dX10_isFull_7 : decode cX10_isFull 7 = .ok (.ifCond .ne 7, 3) := by decide +kernel
theorem dX10_isFull_10 : decode cX10_isFull 10 = .ok (.iconst 1, 1) := by decide +kernel
theorem dX10_isFull_11 : decode cX10_isFull 11 = .ok (.goto 4, 3) := by decide +kernel
theorem dX10_isFull_14 : decode cX10_isFull 14 = .ok (.iconst 0, 1) := by decide +kernel
theorem dX10_isFull_15 : decode cX10_isFull 15 = .ok (.iload_n 2, 1) := by decide +kernel
theorem dX10_isFull_16 : decode cX10_isFull 16 = .ok (.ifCond .ne 7, 3) := by decide +kernel
theorem dX10_isFull_19 : decode cX10_isFull 19 = .ok (.iconst 1, 1) := by decide +kernel
theorem dX10_isFull_20 : decode cX10_isFull 20 = .ok (.goto 4, 3) := by decide +kernel
theorem dX10_isFull_23 : decode cX10_isFull 23 = .ok (.iconst 0, 1) := by decide +kernel
theorem dX10_isFull_24 : decode cX10_isFull 24 = .ok (.if_icmp .eq 5, 3) := by decide +kernel
theorem dX10_isFull_27 : decode cX10_isFull 27 = .ok (.iconst 1, 1) := by decide +kernel
theorem dX10_isFull_28 : decode cX10_isFull 28 = .ok (.ireturn, 1) := by decide +kernel
theorem dX10_isFull_29 : decode cX10_isFull 29 = .ok (.iload_n 1, 1) := by decide +kernel
theorem dX10_isFull_30 : decode cX10_isFull 30 = .ok (.iconst 1, 1) := by decide +kernel
theorem dX10_isFull_31 : decode cX10_isFull 31 = .ok (.if_icmp .ne 14, 3) := by decide +kernel
theorem dX10_isFull_34 : decode cX10_isFull 34 = .ok (.aload_n 0, 1) := by decide +kernel
theorem dX10_isFull_35 : decode cX10_isFull 35 = .ok (.getfield 43, 3) := by decide +kernel
theorem dX10_isFull_38 : decode cX10_isFull 38 = .ok (.iconst 2, 1) := by decide +kernel
theorem dX10_isFull_39 : decode cX10_isFull 39 = .ok (.iaload, 1) := by decide +kernel
theorem dX10_isFull_40 : decode cX10_isFull 40 = .ok (.bipush 8, 2) := by decide +kernel
theorem dX10_isFull_42 : decode cX10_isFull 42 = .ok (.if_icmp .eq 18, 3) := by decide +kernel
theorem dX10_isFull_45 : decode cX10_isFull 45 = .ok (.iload_n 1, 1) := by decide +kernel
theorem dX10_isFull_46 : decode cX10_isFull 46 = .ok (.iconst 2, 1) := by decide +kernel
theorem dX10_isFull_47 : decode cX10_isFull 47 = .ok (.if_icmp .ne 17, 3) := by decide +kernel
theorem dX10_isFull_50 : decode cX10_isFull 50 = .ok (.aload_n 0, 1) := by decide +kernel
theorem dX10_isFull_51 : decode cX10_isFull 51 = .ok (.getfield 43, 3) := by decide +kernel
theorem dX10_isFull_54 : decode cX10_isFull 54 = .ok (.iconst 3, 1) := by decide +kernel
theorem dX10_isFull_55 : decode cX10_isFull 55 = .ok (.iaload, 1) := by decide +kernel
theorem dX10_isFull_56 : decode cX10_isFull 56 = .ok (.iconst 5, 1) := by decide +kernel
theorem dX10_isFull_57 : decode cX10_isFull 57 = .ok (.if_icmp .ne 7, 3) := by decide +kernel
theorem dX10_isFull_60 : decode cX10_isFull 60 = .ok (.iconst 1, 1) := by decide +kernel
theorem dX10_isFull_61 : decode cX10_isFull 61 = .ok (.goto 4, 3) := by decide +kernel
theorem dX10_isFull_64 : decode cX10_isFull 64 = .ok (.iconst 0, 1) := by decide +kernel
theorem dX10_isFull_65 : decode cX10_isFull 65 = .ok (.ireturn, 1) := by decide +kernel
theorem dX10_barClause_0 : decode cX10_barClause 0 = .ok (.aload_n 0, 1) := by decide +kernel
theorem dX10_barClause_1 : decode cX10_barClause 1 = .ok (.invokevirtual 188, 3) := by decide +kernel
theorem dX10_barClause_4 : decode cX10_barClause 4 = .ok (.aload_n 0, 1) := by decide +kernel
theorem dX10_barClause_5 : decode cX10_barClause 5 = .ok (.getfield 168, 3) := by decide +kernel
theorem dX10_barClause_8 : decode cX10_barClause 8 = .ok (.istore_n 2, 1) := by decide +kernel
theorem dX10_barClause_9 : decode cX10_barClause 9 = .ok (.iconst 0, 1) := by decide +kernel
theorem dX10_barClause_10 : decode cX10_barClause 10 = .ok (.istore_n 3, 1) := by decide +kernel
theorem dX10_barClause_11 : decode cX10_barClause 11 = .ok (.iload_n 3, 1) := by decide +kernel
theorem dX10_barClause_12 : decode cX10_barClause 12 = .ok (.iconst 4, 1) := by decide +kernel
theorem dX10_barClause_13 : decode cX10_barClause 13 = .ok (.if_icmp .ge 20, 3) := by decide +kernel
theorem dX10_barClause_16 : decode cX10_barClause 16 = .ok (.aload_n 0, 1) := by decide +kernel
theorem dX10_barClause_17 : decode cX10_barClause 17 = .ok (.iload_n 3, 1) := by decide +kernel
theorem dX10_barClause_18 : decode cX10_barClause 18 = .ok (.invokestatic 270, 3) := by decide +kernel
theorem dX10_barClause_21 : decode cX10_barClause 21 = .ok (.invokevirtual 191, 3) := by decide +kernel
theorem dX10_barClause_24 : decode cX10_barClause 24 = .ok (.ifCond .ne 9, 3) := by decide +kernel
theorem dX10_barClause_27 : decode cX10_barClause 27 = .ok (.iinc 3 1, 3) := by decide +kernel
theorem dX10_barClause_30 : decode cX10_barClause 30 = .ok (.goto (-19), 3) := by decide +kernel
theorem dX10_barClause_33 : decode cX10_barClause 33 = .ok (.iload_n 3, 1) := by decide +kernel
theorem dX10_barClause_34 : decode cX10_barClause 34 = .ok (.iconst 4, 1) := by decide +kernel
theorem dX10_barClause_35 : decode cX10_barClause 35 = .ok (.if_icmp .ne 10, 3) := by decide +kernel
theorem dX10_barClause_38 : decode cX10_barClause 38 = .ok (.aload_n 0, 1) := by decide +kernel
theorem dX10_barClause_39 : decode cX10_barClause 39 = .ok (.iconst 0, 1) := by decide +kernel
theorem dX10_barClause_40 : decode cX10_barClause 40 = .ok (.iload_n 2, 1) := by decide +kernel
theorem dX10_barClause_41 : decode cX10_barClause 41 = .ok (.invokevirtual 204, 3) := by decide +kernel
theorem dX10_barClause_44 : decode cX10_barClause 44 = .ok (.return_, 1) := by decide +kernel
theorem dX10_barClause_45 : decode cX10_barClause 45 = .ok (.aload_n 0, 1) := by decide +kernel
theorem dX10_barClause_46 : decode cX10_barClause 46 = .ok (.iload_n 3, 1) := by decide +kernel
theorem dX10_barClause_47 : decode cX10_barClause 47 = .ok (.iload_n 1, 1) := by decide +kernel
theorem dX10_barClause_48 : decode cX10_barClause 48 = .ok (.invokevirtual 273, 3) := by decide +kernel
theorem dX10_barClause_51 : decode cX10_barClause 51 = .ok (.ifCond .eq 10, 3) := by decide +kernel
theorem dX10_barClause_54 : decode cX10_barClause 54 = .ok (.aload_n 0, 1) := by decide +kernel
theorem dX10_barClause_55 : decode cX10_barClause 55 = .ok (.iconst 4, 1) := by decide +kernel
theorem dX10_barClause_56 : decode cX10_barClause 56 = .ok (.iload_n 2, 1) := by decide +kernel
theorem dX10_barClause_57 : decode cX10_barClause 57 = .ok (.invokevirtual 204, 3) := by decide +kernel
theorem dX10_barClause_60 : decode cX10_barClause 60 = .ok (.return_, 1) := by decide +kernel
theorem dX10_barClause_61 : decode cX10_barClause 61 = .ok (.aload_n 0, 1) := by decide +kernel
theorem dX10_barClause_62 : decode cX10_barClause 62 = .ok (.dup, 1) := by decide +kernel
theorem dX10_barClause_63 : decode cX10_barClause 63 = .ok (.getfield 168, 3) := by decide +kernel
theorem dX10_barClause_66 : decode cX10_barClause 66 = .ok (.iload_n 3, 1) := by decide +kernel
theorem dX10_barClause_67 : decode cX10_barClause 67 = .ok (.invokestatic 270, 3) := by decide +kernel
theorem dX10_barClause_70 : decode cX10_barClause 70 = .ok (.invokevirtual 179, 3) := by decide +kernel
theorem dX10_barClause_73 : decode cX10_barClause 73 = .ok (.iadd, 1) := by decide +kernel
theorem dX10_barClause_74 : decode cX10_barClause 74 = .ok (.putfield 168, 3) := by decide +kernel
theorem dX10_barClause_77 : decode cX10_barClause 77 = .ok (.aload_n 0, 1) := by decide +kernel
theorem dX10_barClause_78 : decode cX10_barClause 78 = .ok (.iload_n 3, 1) := by decide +kernel
theorem dX10_barClause_79 : decode cX10_barClause 79 = .ok (.invokevirtual 277, 3) := by decide +kernel
theorem dX10_barClause_82 : decode cX10_barClause 82 = .ok (.return_, 1) := by decide +kernel
theorem dX10_copies_0 : decode cX10_copies 0 = .ok (.iconst 0, 1) := by decide +kernel
theorem dX10_copies_1 : decode cX10_copies 1 = .ok (.istore_n 2, 1) := by decide +kernel
theorem dX10_copies_2 : decode cX10_copies 2 = .ok (.iload_n 2, 1) := by decide +kernel
theorem dX10_copies_3 : decode cX10_copies 3 = .ok (.aload_n 0, 1) := by decide +kernel
theorem dX10_copies_4 : decode cX10_copies 4 = .ok (.arraylength, 1) := by decide +kernel
theorem dX10_copies_5 : decode cX10_copies 5 = .ok (.if_icmp .ge 15, 3) := by decide +kernel
theorem dX10_copies_8 : decode cX10_copies 8 = .ok (.aload_n 1, 1) := by decide +kernel
theorem dX10_copies_9 : decode cX10_copies 9 = .ok (.iload_n 2, 1) := by decide +kernel
theorem dX10_copies_10 : decode cX10_copies 10 = .ok (.aload_n 0, 1) := by decide +kernel
theorem dX10_copies_11 : decode cX10_copies 11 = .ok (.iload_n 2, 1) := by decide +kernel
theorem dX10_copies_12 : decode cX10_copies 12 = .ok (.iaload, 1) := by decide +kernel
theorem dX10_copies_13 : decode cX10_copies 13 = .ok (.iastore, 1) := by decide +kernel
theorem dX10_copies_14 : decode cX10_copies 14 = .ok (.iinc 2 1, 3) := by decide +kernel
theorem dX10_copies_17 : decode cX10_copies 17 = .ok (.goto (-15), 3) := by decide +kernel
theorem dX10_copies_20 : decode cX10_copies 20 = .ok (.return_, 1) := by decide +kernel
theorem dX10_goesOn_0 : decode cX10_goesOn 0 = .ok (.aload_n 0, 1) := by decide +kernel
theorem dX10_goesOn_1 : decode cX10_goesOn 1 = .ok (.invokevirtual 188, 3) := by decide +kernel
theorem dX10_goesOn_4 : decode cX10_goesOn 4 = .ok (.aload_n 0, 1) := by decide +kernel
theorem dX10_goesOn_5 : decode cX10_goesOn 5 = .ok (.getfield 165, 3) := by decide +kernel
theorem dX10_goesOn_8 : decode cX10_goesOn 8 = .ok (.ifCond .ne 32, 3) := by decide +kernel
theorem dX10_goesOn_11 : decode cX10_goesOn 11 = .ok (.aload_n 0, 1) := by decide +kernel
theorem dX10_goesOn_12 : decode cX10_goesOn 12 = .ok (.getfield 168, 3) := by decide +kernel
theorem dX10_goesOn_15 : decode cX10_goesOn 15 = .ok (.aload_n 0, 1) := by decide +kernel
theorem dX10_goesOn_16 : decode cX10_goesOn 16 = .ok (.getfield 139, 3) := by decide +kernel
theorem dX10_goesOn_19 : decode cX10_goesOn 19 = .ok (.if_icmp .ge 21, 3) := by decide +kernel
theorem dX10_goesOn_22 : decode cX10_goesOn 22 = .ok (.aload_n 0, 1) := by decide +kernel
theorem dX10_goesOn_23 : decode cX10_goesOn 23 = .ok (.invokevirtual 171, 3) := by decide +kernel
theorem dX10_goesOn_26 : decode cX10_goesOn 26 = .ok (.bipush 59, 2) := by decide +kernel
theorem dX10_goesOn_28 : decode cX10_goesOn 28 = .ok (.if_icmp .eq 12, 3) := by decide +kernel
theorem dX10_goesOn_31 : decode cX10_goesOn 31 = .ok (.aload_n 0, 1) := by decide +kernel
theorem dX10_goesOn_32 : decode cX10_goesOn 32 = .ok (.iconst 0, 1) := by decide +kernel
theorem dX10_goesOn_33 : decode cX10_goesOn 33 = .ok (.aload_n 0, 1) := by decide +kernel
theorem dX10_goesOn_34 : decode cX10_goesOn 34 = .ok (.getfield 168, 3) := by decide +kernel
theorem dX10_goesOn_37 : decode cX10_goesOn 37 = .ok (.invokevirtual 204, 3) := by decide +kernel
theorem dX10_goesOn_40 : decode cX10_goesOn 40 = .ok (.aload_n 0, 1) := by decide +kernel
theorem dX10_goesOn_41 : decode cX10_goesOn 41 = .ok (.getfield 165, 3) := by decide +kernel
theorem dX10_goesOn_44 : decode cX10_goesOn 44 = .ok (.ifCond .ne 18, 3) := by decide +kernel
theorem dX10_goesOn_47 : decode cX10_goesOn 47 = .ok (.aload_n 0, 1) := by decide +kernel
theorem dX10_goesOn_48 : decode cX10_goesOn 48 = .ok (.getfield 168, 3) := by decide +kernel
theorem dX10_goesOn_51 : decode cX10_goesOn 51 = .ok (.aload_n 0, 1) := by decide +kernel
theorem dX10_goesOn_52 : decode cX10_goesOn 52 = .ok (.getfield 139, 3) := by decide +kernel
theorem dX10_goesOn_55 : decode cX10_goesOn 55 = .ok (.if_icmp .ge 7, 3) := by decide +kernel
theorem dX10_goesOn_58 : decode cX10_goesOn 58 = .ok (.iconst 1, 1) := by decide +kernel
theorem dX10_goesOn_59 : decode cX10_goesOn 59 = .ok (.goto 4, 3) := by decide +kernel
theorem dX10_goesOn_62 : decode cX10_goesOn 62 = .ok (.iconst 0, 1) := by decide +kernel
theorem dX10_goesOn_63 : decode cX10_goesOn 63 = .ok (.istore_n 1, 1) := by decide +kernel
theorem dX10_goesOn_64 : decode cX10_goesOn 64 = .ok (.aload_n 0, 1) := by decide +kernel
theorem dX10_goesOn_65 : decode cX10_goesOn 65 = .ok (.dup, 1) := by decide +kernel
theorem dX10_goesOn_66 : decode cX10_goesOn 66 = .ok (.getfield 168, 3) := by decide +kernel
theorem dX10_goesOn_69 : decode cX10_goesOn 69 = .ok (.iconst 1, 1) := by decide +kernel
theorem dX10_goesOn_70 : decode cX10_goesOn 70 = .ok (.iadd, 1) := by decide +kernel
theorem dX10_goesOn_71 : decode cX10_goesOn 71 = .ok (.putfield 168, 3) := by decide +kernel
theorem dX10_goesOn_74 : decode cX10_goesOn 74 = .ok (.iload_n 1, 1) := by decide +kernel
theorem dX10_goesOn_75 : decode cX10_goesOn 75 = .ok (.ireturn, 1) := by decide +kernel
theorem dX10_starts_0 : decode cX10_starts 0 = .ok (.aload_n 0, 1) := by decide +kernel
theorem dX10_starts_1 : decode cX10_starts 1 = .ok (.iconst 0, 1) := by decide +kernel
theorem dX10_starts_2 : decode cX10_starts 2 = .ok (.putfield 168, 3) := by decide +kernel
theorem dX10_starts_5 : decode cX10_starts 5 = .ok (.aload_n 0, 1) := by decide +kernel
theorem dX10_starts_6 : decode cX10_starts 6 = .ok (.iconst 0, 1) := by decide +kernel
theorem dX10_starts_7 : decode cX10_starts 7 = .ok (.putfield 165, 3) := by decide +kernel
theorem dX10_starts_10 : decode cX10_starts 10 = .ok (.aload_n 0, 1) := by decide +kernel
theorem dX10_starts_11 : decode cX10_starts 11 = .ok (.iconst 0, 1) := by decide +kernel
theorem dX10_starts_12 : decode cX10_starts 12 = .ok (.putfield 198, 3) := by decide +kernel
theorem dX10_starts_15 : decode cX10_starts 15 = .ok (.aload_n 0, 1) := by decide +kernel
theorem dX10_starts_16 : decode cX10_starts 16 = .ok (.iconst 0, 1) := by decide +kernel
theorem dX10_starts_17 : decode cX10_starts 17 = .ok (.putfield 239, 3) := by decide +kernel
theorem dX10_starts_20 : decode cX10_starts 20 = .ok (.aload_n 0, 1) := by decide +kernel
theorem dX10_starts_21 : decode cX10_starts 21 = .ok (.iconst 0, 1) := by decide +kernel
theorem dX10_starts_22 : decode cX10_starts 22 = .ok (.putfield 201, 3) := by decide +kernel
theorem dX10_starts_25 : decode cX10_starts 25 = .ok (.return_, 1) := by decide +kernel
theorem dX10_readsAll_0 : decode cX10_readsAll 0 = .ok (.aload_n 0, 1) := by decide +kernel
theorem dX10_readsAll_1 : decode cX10_readsAll 1 = .ok (.invokevirtual 280, 3) := by decide +kernel
theorem dX10_readsAll_4 : decode cX10_readsAll 4 = .ok (.iconst 0, 1) := by decide +kernel
theorem dX10_readsAll_5 : decode cX10_readsAll 5 = .ok (.istore_n 1, 1) := by decide +kernel
theorem dX10_readsAll_6 : decode cX10_readsAll 6 = .ok (.iload_n 1, 1) := by decide +kernel
theorem dX10_readsAll_7 : decode cX10_readsAll 7 = .ok (.iconst 4, 1) := by decide +kernel
theorem dX10_readsAll_8 : decode cX10_readsAll 8 = .ok (.if_icmp .ge 16, 3) := by decide +kernel
theorem dX10_readsAll_11 : decode cX10_readsAll 11 = .ok (.aload_n 0, 1) := by decide +kernel
theorem dX10_readsAll_12 : decode cX10_readsAll 12 = .ok (.getfield 43, 3) := by decide +kernel
theorem dX10_readsAll_15 : decode cX10_readsAll 15 = .ok (.iload_n 1, 1) := by decide +kernel
theorem dX10_readsAll_16 : decode cX10_readsAll 16 = .ok (.iconst 0, 1) := by decide +kernel
theorem dX10_readsAll_17 : decode cX10_readsAll 17 = .ok (.iastore, 1) := by decide +kernel
theorem dX10_readsAll_18 : decode cX10_readsAll 18 = .ok (.iinc 1 1, 3) := by decide +kernel
theorem dX10_readsAll_21 : decode cX10_readsAll 21 = .ok (.goto (-15), 3) := by decide +kernel
theorem dX10_readsAll_24 : decode cX10_readsAll 24 = .ok (.iconst 0, 1) := by decide +kernel
theorem dX10_readsAll_25 : decode cX10_readsAll 25 = .ok (.istore_n 1, 1) := by decide +kernel
theorem dX10_readsAll_26 : decode cX10_readsAll 26 = .ok (.iload_n 1, 1) := by decide +kernel
theorem dX10_readsAll_27 : decode cX10_readsAll 27 = .ok (.iconst 5, 1) := by decide +kernel
theorem dX10_readsAll_28 : decode cX10_readsAll 28 = .ok (.if_icmp .ge 23, 3) := by decide +kernel
theorem dX10_readsAll_31 : decode cX10_readsAll 31 = .ok (.aload_n 0, 1) := by decide +kernel
theorem dX10_readsAll_32 : decode cX10_readsAll 32 = .ok (.getfield 55, 3) := by decide +kernel
theorem dX10_readsAll_35 : decode cX10_readsAll 35 = .ok (.iload_n 1, 1) := by decide +kernel
theorem dX10_readsAll_36 : decode cX10_readsAll 36 = .ok (.iconst 0, 1) := by decide +kernel
theorem dX10_readsAll_37 : decode cX10_readsAll 37 = .ok (.iastore, 1) := by decide +kernel
theorem dX10_readsAll_38 : decode cX10_readsAll 38 = .ok (.aload_n 0, 1) := by decide +kernel
theorem dX10_readsAll_39 : decode cX10_readsAll 39 = .ok (.getfield 49, 3) := by decide +kernel
theorem dX10_readsAll_42 : decode cX10_readsAll 42 = .ok (.iload_n 1, 1) := by decide +kernel
theorem dX10_readsAll_43 : decode cX10_readsAll 43 = .ok (.iconst 0, 1) := by decide +kernel
theorem dX10_readsAll_44 : decode cX10_readsAll 44 = .ok (.iastore, 1) := by decide +kernel
theorem dX10_readsAll_45 : decode cX10_readsAll 45 = .ok (.iinc 1 1, 3) := by decide +kernel
theorem dX10_readsAll_48 : decode cX10_readsAll 48 = .ok (.goto (-22), 3) := by decide +kernel
theorem dX10_readsAll_51 : decode cX10_readsAll 51 = .ok (.iconst 0, 1) := by decide +kernel
theorem dX10_readsAll_52 : decode cX10_readsAll 52 = .ok (.istore_n 1, 1) := by decide +kernel
theorem dX10_readsAll_53 : decode cX10_readsAll 53 = .ok (.iconst 1, 1) := by decide +kernel
theorem dX10_readsAll_54 : decode cX10_readsAll 54 = .ok (.istore_n 2, 1) := by decide +kernel
theorem dX10_readsAll_55 : decode cX10_readsAll 55 = .ok (.iload_n 2, 1) := by decide +kernel
theorem dX10_readsAll_56 : decode cX10_readsAll 56 = .ok (.ifCond .eq 19, 3) := by decide +kernel
theorem dX10_readsAll_59 : decode cX10_readsAll 59 = .ok (.aload_n 0, 1) := by decide +kernel
theorem dX10_readsAll_60 : decode cX10_readsAll 60 = .ok (.iload_n 1, 1) := by decide +kernel
theorem dX10_readsAll_61 : decode cX10_readsAll 61 = .ok (.invokevirtual 283, 3) := by decide +kernel
theorem dX10_readsAll_64 : decode cX10_readsAll 64 = .ok (.iinc 1 1, 3) := by decide +kernel
theorem dX10_readsAll_67 : decode cX10_readsAll 67 = .ok (.aload_n 0, 1) := by decide +kernel
theorem dX10_readsAll_68 : decode cX10_readsAll 68 = .ok (.invokevirtual 286, 3) := by decide +kernel
theorem dX10_readsAll_71 : decode cX10_readsAll 71 = .ok (.istore_n 2, 1) := by decide +kernel
theorem dX10_readsAll_72 : decode cX10_readsAll 72 = .ok (.goto (-17), 3) := by decide +kernel
theorem dX10_readsAll_75 : decode cX10_readsAll 75 = .ok (.aload_n 0, 1) := by decide +kernel
theorem dX10_readsAll_76 : decode cX10_readsAll 76 = .ok (.iconst 0, 1) := by decide +kernel
theorem dX10_readsAll_77 : decode cX10_readsAll 77 = .ok (.putfield 139, 3) := by decide +kernel
theorem dX10_readsAll_80 : decode cX10_readsAll 80 = .ok (.return_, 1) := by decide +kernel
theorem dX10_begins_0 : decode cX10_begins 0 = .ok (.aload_n 0, 1) := by decide +kernel
theorem dX10_begins_1 : decode cX10_begins 1 = .ok (.getfield 40, 3) := by decide +kernel
theorem dX10_begins_4 : decode cX10_begins 4 = .ok (.aload_n 0, 1) := by decide +kernel
theorem dX10_begins_5 : decode cX10_begins 5 = .ok (.getfield 25, 3) := by decide +kernel
theorem dX10_begins_8 : decode cX10_begins 8 = .ok (.invokestatic 289, 3) := by decide +kernel
theorem dX10_begins_11 : decode cX10_begins 11 = .ok (.aload_n 0, 1) := by decide +kernel
theorem dX10_begins_12 : decode cX10_begins 12 = .ok (.getfield 9, 3) := by decide +kernel
theorem dX10_begins_15 : decode cX10_begins 15 = .ok (.iconst 4, 1) := by decide +kernel
theorem dX10_begins_16 : decode cX10_begins 16 = .ok (.iconst 0, 1) := by decide +kernel
theorem dX10_begins_17 : decode cX10_begins 17 = .ok (.iastore, 1) := by decide +kernel
theorem dX10_begins_18 : decode cX10_begins 18 = .ok (.aload_n 0, 1) := by decide +kernel
theorem dX10_begins_19 : decode cX10_begins 19 = .ok (.getfield 9, 3) := by decide +kernel
theorem dX10_begins_22 : decode cX10_begins 22 = .ok (.iconst 5, 1) := by decide +kernel
theorem dX10_begins_23 : decode cX10_begins 23 = .ok (.iconst 0, 1) := by decide +kernel
theorem dX10_begins_24 : decode cX10_begins 24 = .ok (.iastore, 1) := by decide +kernel
theorem dX10_begins_25 : decode cX10_begins 25 = .ok (.iconst 0, 1) := by decide +kernel
theorem dX10_begins_26 : decode cX10_begins 26 = .ok (.istore_n 1, 1) := by decide +kernel
theorem dX10_begins_27 : decode cX10_begins 27 = .ok (.iload_n 1, 1) := by decide +kernel
theorem dX10_begins_28 : decode cX10_begins 28 = .ok (.bipush 8, 2) := by decide +kernel
theorem dX10_begins_30 : decode cX10_begins 30 = .ok (.if_icmp .ge 18, 3) := by decide +kernel
theorem dX10_begins_33 : decode cX10_begins 33 = .ok (.aload_n 0, 1) := by decide +kernel
theorem dX10_begins_34 : decode cX10_begins 34 = .ok (.getfield 22, 3) := by decide +kernel
theorem dX10_begins_37 : decode cX10_begins 37 = .ok (.iload_n 1, 1) := by decide +kernel
theorem dX10_begins_38 : decode cX10_begins 38 = .ok (.sipush (-1000), 3) := by decide +kernel
theorem dX10_begins_41 : decode cX10_begins 41 = .ok (.iastore, 1) := by decide +kernel
theorem dX10_begins_42 : decode cX10_begins 42 = .ok (.iinc 1 1, 3) := by decide +kernel
theorem dX10_begins_45 : decode cX10_begins 45 = .ok (.goto (-18), 3) := by decide +kernel
theorem dX10_begins_48 : decode cX10_begins 48 = .ok (.iconst 0, 1) := by decide +kernel
theorem dX10_begins_49 : decode cX10_begins 49 = .ok (.istore_n 1, 1) := by decide +kernel
theorem dX10_begins_50 : decode cX10_begins 50 = .ok (.iload_n 1, 1) := by decide +kernel
theorem dX10_begins_51 : decode cX10_begins 51 = .ok (.iconst 5, 1) := by decide +kernel
theorem dX10_begins_52 : decode cX10_begins 52 = .ok (.if_icmp .ge 16, 3) := by decide +kernel
theorem dX10_begins_55 : decode cX10_begins 55 = .ok (.aload_n 0, 1) := by decide +kernel
theorem dX10_begins_56 : decode cX10_begins 56 = .ok (.getfield 28, 3) := by decide +kernel
theorem dX10_begins_59 : decode cX10_begins 59 = .ok (.iload_n 1, 1) := by decide +kernel
theorem dX10_begins_60 : decode cX10_begins 60 = .ok (.iconst (-1), 1) := by decide +kernel
theorem dX10_begins_61 : decode cX10_begins 61 = .ok (.iastore, 1) := by decide +kernel
theorem dX10_begins_62 : decode cX10_begins 62 = .ok (.iinc 1 1, 3) := by decide +kernel
theorem dX10_begins_65 : decode cX10_begins 65 = .ok (.goto (-15), 3) := by decide +kernel
theorem dX10_begins_68 : decode cX10_begins 68 = .ok (.return_, 1) := by decide +kernel
theorem dX10_bar_0 : decode cX10_bar 0 = .ok (.aload_n 0, 1) := by decide +kernel
theorem dX10_bar_1 : decode cX10_bar 1 = .ok (.invokevirtual 293, 3) := by decide +kernel
theorem dX10_bar_4 : decode cX10_bar 4 = .ok (.aload_n 0, 1) := by decide +kernel
theorem dX10_bar_5 : decode cX10_bar 5 = .ok (.getfield 165, 3) := by decide +kernel
theorem dX10_bar_8 : decode cX10_bar 8 = .ok (.ifCond .le 11, 3) := by decide +kernel
theorem dX10_bar_11 : decode cX10_bar 11 = .ok (.bipush (-2), 2) := by decide +kernel
theorem dX10_bar_13 : decode cX10_bar 13 = .ok (.aload_n 0, 1) := by decide +kernel
theorem dX10_bar_14 : decode cX10_bar 14 = .ok (.getfield 165, 3) := by decide +kernel
theorem dX10_bar_17 : decode cX10_bar 17 = .ok (.isub, 1) := by decide +kernel
theorem dX10_bar_18 : decode cX10_bar 18 = .ok (.ireturn, 1) := by decide +kernel
theorem dX10_bar_19 : decode cX10_bar 19 = .ok (.iconst 0, 1) := by decide +kernel
theorem dX10_bar_20 : decode cX10_bar 20 = .ok (.istore_n 1, 1) := by decide +kernel
theorem dX10_bar_21 : decode cX10_bar 21 = .ok (.iload_n 1, 1) := by decide +kernel
theorem dX10_bar_22 : decode cX10_bar 22 = .ok (.iconst 4, 1) := by decide +kernel
theorem dX10_bar_23 : decode cX10_bar 23 = .ok (.if_icmp .ge 21, 3) := by decide +kernel
theorem dX10_bar_26 : decode cX10_bar 26 = .ok (.aload_n 0, 1) := by decide +kernel
theorem dX10_bar_27 : decode cX10_bar 27 = .ok (.getfield 9, 3) := by decide +kernel
theorem dX10_bar_30 : decode cX10_bar 30 = .ok (.iload_n 1, 1) := by decide +kernel
theorem dX10_bar_31 : decode cX10_bar 31 = .ok (.aload_n 0, 1) := by decide +kernel
theorem dX10_bar_32 : decode cX10_bar 32 = .ok (.getfield 43, 3) := by decide +kernel
theorem dX10_bar_35 : decode cX10_bar 35 = .ok (.iload_n 1, 1) := by decide +kernel
theorem dX10_bar_36 : decode cX10_bar 36 = .ok (.iaload, 1) := by decide +kernel
theorem dX10_bar_37 : decode cX10_bar 37 = .ok (.iastore, 1) := by decide +kernel
theorem dX10_bar_38 : decode cX10_bar 38 = .ok (.iinc 1 1, 3) := by decide +kernel
theorem dX10_bar_41 : decode cX10_bar 41 = .ok (.goto (-20), 3) := by decide +kernel
theorem dX10_bar_44 : decode cX10_bar 44 = .ok (.aload_n 0, 1) := by decide +kernel
theorem dX10_bar_45 : decode cX10_bar 45 = .ok (.getfield 9, 3) := by decide +kernel
theorem dX10_bar_48 : decode cX10_bar 48 = .ok (.bipush 6, 2) := by decide +kernel
theorem dX10_bar_50 : decode cX10_bar 50 = .ok (.iconst 0, 1) := by decide +kernel
theorem dX10_bar_51 : decode cX10_bar 51 = .ok (.iastore, 1) := by decide +kernel
theorem dX10_bar_52 : decode cX10_bar 52 = .ok (.aload_n 0, 1) := by decide +kernel
theorem dX10_bar_53 : decode cX10_bar 53 = .ok (.getfield 46, 3) := by decide +kernel
theorem dX10_bar_56 : decode cX10_bar 56 = .ok (.aload_n 0, 1) := by decide +kernel
theorem dX10_bar_57 : decode cX10_bar 57 = .ok (.getfield 13, 3) := by decide +kernel
theorem dX10_bar_60 : decode cX10_bar 60 = .ok (.invokestatic 289, 3) := by decide +kernel
theorem dX10_bar_63 : decode cX10_bar 63 = .ok (.aload_n 0, 1) := by decide +kernel
theorem dX10_bar_64 : decode cX10_bar 64 = .ok (.getfield 49, 3) := by decide +kernel
theorem dX10_bar_67 : decode cX10_bar 67 = .ok (.aload_n 0, 1) := by decide +kernel
theorem dX10_bar_68 : decode cX10_bar 68 = .ok (.getfield 16, 3) := by decide +kernel
theorem dX10_bar_71 : decode cX10_bar 71 = .ok (.invokestatic 289, 3) := by decide +kernel
theorem dX10_bar_74 : decode cX10_bar 74 = .ok (.aload_n 0, 1) := by decide +kernel
theorem dX10_bar_75 : decode cX10_bar 75 = .ok (.getfield 52, 3) := by decide +kernel
theorem dX10_bar_78 : decode cX10_bar 78 = .ok (.aload_n 0, 1) := by decide +kernel
theorem dX10_bar_79 : decode cX10_bar 79 = .ok (.getfield 19, 3) := by decide +kernel
theorem dX10_bar_82 : decode cX10_bar 82 = .ok (.invokestatic 289, 3) := by decide +kernel
theorem dX10_bar_85 : decode cX10_bar 85 = .ok (.aload_n 0, 1) := by decide +kernel
theorem dX10_bar_86 : decode cX10_bar 86 = .ok (.getfield 55, 3) := by decide +kernel
theorem dX10_bar_89 : decode cX10_bar 89 = .ok (.aload_n 0, 1) := by decide +kernel
theorem dX10_bar_90 : decode cX10_bar 90 = .ok (.getfield 40, 3) := by decide +kernel
theorem dX10_bar_93 : decode cX10_bar 93 = .ok (.invokestatic 289, 3) := by decide +kernel
theorem dX10_bar_96 : decode cX10_bar 96 = .ok (.aload_n 0, 1) := by decide +kernel
theorem dX10_bar_97 : decode cX10_bar 97 = .ok (.invokevirtual 296, 3) := by decide +kernel
theorem dX10_bar_100 : decode cX10_bar 100 = .ok (.aload_n 0, 1) := by decide +kernel
theorem dX10_bar_101 : decode cX10_bar 101 = .ok (.iconst 0, 1) := by decide +kernel
theorem dX10_bar_102 : decode cX10_bar 102 = .ok (.putfield 299, 3) := by decide +kernel
theorem dX10_bar_105 : decode cX10_bar 105 = .ok (.aload_n 0, 1) := by decide +kernel
theorem dX10_bar_106 : decode cX10_bar 106 = .ok (.getfield 9, 3) := by decide +kernel
theorem dX10_bar_109 : decode cX10_bar 109 = .ok (.iconst 3, 1) := by decide +kernel
theorem dX10_bar_110 : decode cX10_bar 110 = .ok (.iaload, 1) := by decide +kernel
theorem dX10_bar_111 : decode cX10_bar 111 = .ok (.ireturn, 1) := by decide +kernel
theorem dX10_ruleClause_0 : decode cX10_ruleClause 0 = .ok (.aload_n 0, 1) := by decide +kernel
theorem dX10_ruleClause_1 : decode cX10_ruleClause 1 = .ok (.invokevirtual 188, 3) := by decide +kernel
theorem dX10_ruleClause_4 : decode cX10_ruleClause 4 = .ok (.aload_n 0, 1) := by decide +kernel
theorem dX10_ruleClause_5 : decode cX10_ruleClause 5 = .ok (.getfield 168, 3) := by decide +kernel
theorem dX10_ruleClause_8 : decode cX10_ruleClause 8 = .ok (.istore_n 2, 1) := by decide +kernel
theorem dX10_ruleClause_9 : decode cX10_ruleClause 9 = .ok (.aload_n 0, 1) := by decide +kernel
theorem dX10_ruleClause_10 : decode cX10_ruleClause 10 = .ok (.ldc_w 302, 3) := by decide +kernel
theorem dX10_ruleClause_13 : decode cX10_ruleClause 13 = .ok (.invokevirtual 191, 3) := by decide +kernel
theorem dX10_ruleClause_16 : decode cX10_ruleClause 16 = .ok (.ifCond .ne 10, 3) := by decide +kernel
theorem dX10_ruleClause_19 : decode cX10_ruleClause 19 = .ok (.aload_n 0, 1) := by decide +kernel
theorem dX10_ruleClause_20 : decode cX10_ruleClause 20 = .ok (.iconst 0, 1) := by decide +kernel
theorem dX10_ruleClause_21 : decode cX10_ruleClause 21 = .ok (.iload_n 2, 1) := by decide +kernel
theorem dX10_ruleClause_22 : decode cX10_ruleClause 22 = .ok (.invokevirtual 204, 3) := by decide +kernel
theorem dX10_ruleClause_25 : decode cX10_ruleClause 25 = .ok (.return_, 1) := by decide +kernel
theorem dX10_ruleClause_26 : decode cX10_ruleClause 26 = .ok (.iload_n 1, 1) := by decide +kernel
theorem dX10_ruleClause_27 : decode cX10_ruleClause 27 = .ok (.bipush 12, 2) := by decide +kernel
theorem dX10_ruleClause_29 : decode cX10_ruleClause 29 = .ok (.if_icmp .ne 10, 3) := by decide +kernel
theorem dX10_ruleClause_32 : decode cX10_ruleClause 32 = .ok (.aload_n 0, 1) := by decide +kernel
theorem dX10_ruleClause_33 : decode cX10_ruleClause 33 = .ok (.iconst 4, 1) := by decide +kernel
theorem dX10_ruleClause_34 : decode cX10_ruleClause 34 = .ok (.iload_n 2, 1) := by decide +kernel
theorem dX10_ruleClause_35 : decode cX10_ruleClause 35 = .ok (.invokevirtual 204, 3) := by decide +kernel
theorem dX10_ruleClause_38 : decode cX10_ruleClause 38 = .ok (.return_, 1) := by decide +kernel
theorem dX10_ruleClause_39 : decode cX10_ruleClause 39 = .ok (.aload_n 0, 1) := by decide +kernel
theorem dX10_ruleClause_40 : decode cX10_ruleClause 40 = .ok (.dup, 1) := by decide +kernel
theorem dX10_ruleClause_41 : decode cX10_ruleClause 41 = .ok (.getfield 168, 3) := by decide +kernel
theorem dX10_ruleClause_44 : decode cX10_ruleClause 44 = .ok (.iconst 4, 1) := by decide +kernel
theorem dX10_ruleClause_45 : decode cX10_ruleClause 45 = .ok (.iadd, 1) := by decide +kernel
theorem dX10_ruleClause_46 : decode cX10_ruleClause 46 = .ok (.putfield 168, 3) := by decide +kernel
theorem dX10_ruleClause_49 : decode cX10_ruleClause 49 = .ok (.bipush 12, 2) := by decide +kernel
theorem dX10_ruleClause_51 : decode cX10_ruleClause 51 = .ok (.aload_n 0, 1) := by decide +kernel
theorem dX10_ruleClause_52 : decode cX10_ruleClause 52 = .ok (.getfield 195, 3) := by decide +kernel
theorem dX10_ruleClause_55 : decode cX10_ruleClause 55 = .ok (.imul, 1) := by decide +kernel
theorem dX10_ruleClause_56 : decode cX10_ruleClause 56 = .ok (.iload_n 1, 1) := by decide +kernel
theorem dX10_ruleClause_57 : decode cX10_ruleClause 57 = .ok (.iadd, 1) := by decide +kernel
theorem dX10_ruleClause_58 : decode cX10_ruleClause 58 = .ok (.istore_n 3, 1) := by decide +kernel
theorem dX10_ruleClause_59 : decode cX10_ruleClause 59 = .ok (.aload_n 0, 1) := by decide +kernel
theorem dX10_ruleClause_60 : decode cX10_ruleClause 60 = .ok (.getfield 75, 3) := by decide +kernel
theorem dX10_ruleClause_63 : decode cX10_ruleClause 63 = .ok (.iload_n 3, 1) := by decide +kernel
theorem dX10_ruleClause_64 : decode cX10_ruleClause 64 = .ok (.aload_n 0, 1) := by decide +kernel
theorem dX10_ruleClause_65 : decode cX10_ruleClause 65 = .ok (.getfield 198, 3) := by decide +kernel
theorem dX10_ruleClause_68 : decode cX10_ruleClause 68 = .ok (.iastore, 1) := by decide +kernel
theorem dX10_ruleClause_69 : decode cX10_ruleClause 69 = .ok (.aload_n 0, 1) := by decide +kernel
theorem dX10_ruleClause_70 : decode cX10_ruleClause 70 = .ok (.invokevirtual 233, 3) := by decide +kernel
theorem dX10_ruleClause_73 : decode cX10_ruleClause 73 = .ok (.aload_n 0, 1) := by decide +kernel
theorem dX10_ruleClause_74 : decode cX10_ruleClause 74 = .ok (.getfield 78, 3) := by decide +kernel
theorem dX10_ruleClause_77 : decode cX10_ruleClause 77 = .ok (.iload_n 3, 1) := by decide +kernel
theorem dX10_ruleClause_78 : decode cX10_ruleClause 78 = .ok (.aload_n 0, 1) := by decide +kernel
theorem dX10_ruleClause_79 : decode cX10_ruleClause 79 = .ok (.getfield 198, 3) := by decide +kernel
theorem dX10_ruleClause_82 : decode cX10_ruleClause 82 = .ok (.iastore, 1) := by decide +kernel
theorem dX10_ruleClause_83 : decode cX10_ruleClause 83 = .ok (.aload_n 0, 1) := by decide +kernel
theorem dX10_ruleClause_84 : decode cX10_ruleClause 84 = .ok (.getfield 165, 3) := by decide +kernel
theorem dX10_ruleClause_87 : decode cX10_ruleClause 87 = .ok (.ifCond .ne 17, 3) := by decide +kernel
theorem dX10_ruleClause_90 : decode cX10_ruleClause 90 = .ok (.aload_n 0, 1) := by decide +kernel
theorem dX10_ruleClause_91 : decode cX10_ruleClause 91 = .ok (.ldc_w 304, 3) := by decide +kernel
theorem dX10_ruleClause_94 : decode cX10_ruleClause 94 = .ok (.invokevirtual 306, 3) := by decide +kernel
theorem dX10_ruleClause_97 : decode cX10_ruleClause 97 = .ok (.ifCond .eq 7, 3) := by decide +kernel
theorem dX10_ruleClause_100 : decode cX10_ruleClause 100 = .ok (.aload_n 0, 1) := by decide +kernel
theorem dX10_ruleClause_101 : decode cX10_ruleClause 101 = .ok (.invokevirtual 309, 3) := by decide +kernel
theorem dX10_ruleClause_104 : decode cX10_ruleClause 104 = .ok (.aload_n 0, 1) := by decide +kernel
theorem dX10_ruleClause_105 : decode cX10_ruleClause 105 = .ok (.getfield 81, 3) := by decide +kernel
theorem dX10_ruleClause_108 : decode cX10_ruleClause 108 = .ok (.iload_n 3, 1) := by decide +kernel
theorem dX10_ruleClause_109 : decode cX10_ruleClause 109 = .ok (.aload_n 0, 1) := by decide +kernel
theorem dX10_ruleClause_110 : decode cX10_ruleClause 110 = .ok (.getfield 198, 3) := by decide +kernel
theorem dX10_ruleClause_113 : decode cX10_ruleClause 113 = .ok (.iastore, 1) := by decide +kernel
theorem dX10_ruleClause_114 : decode cX10_ruleClause 114 = .ok (.return_, 1) := by decide +kernel
theorem dX10_rule_0 : decode cX10_rule 0 = .ok (.aload_n 0, 1) := by decide +kernel
theorem dX10_rule_1 : decode cX10_rule 1 = .ok (.getfield 312, 3) := by decide +kernel
theorem dX10_rule_4 : decode cX10_rule 4 = .ok (.bipush 6, 2) := by decide +kernel
theorem dX10_rule_6 : decode cX10_rule 6 = .ok (.if_icmp .ne 5, 3) := by decide +kernel
theorem dX10_rule_9 : decode cX10_rule 9 = .ok (.iconst (-1), 1) := by decide +kernel
theorem dX10_rule_10 : decode cX10_rule 10 = .ok (.ireturn, 1) := by decide +kernel
theorem dX10_rule_11 : decode cX10_rule 11 = .ok (.aload_n 0, 1) := by decide +kernel
theorem dX10_rule_12 : decode cX10_rule 12 = .ok (.aload_n 0, 1) := by decide +kernel
theorem dX10_rule_13 : decode cX10_rule 13 = .ok (.getfield 312, 3) := by decide +kernel
theorem dX10_rule_16 : decode cX10_rule 16 = .ok (.putfield 195, 3) := by decide +kernel
theorem dX10_rule_19 : decode cX10_rule 19 = .ok (.aload_n 0, 1) := by decide +kernel
theorem dX10_rule_20 : decode cX10_rule 20 = .ok (.invokevirtual 280, 3) := by decide +kernel
theorem dX10_rule_23 : decode cX10_rule 23 = .ok (.iconst 0, 1) := by decide +kernel
theorem dX10_rule_24 : decode cX10_rule 24 = .ok (.istore_n 1, 1) := by decide +kernel
theorem dX10_rule_25 : decode cX10_rule 25 = .ok (.iconst 1, 1) := by decide +kernel
theorem dX10_rule_26 : decode cX10_rule 26 = .ok (.istore_n 2, 1) := by decide +kernel
theorem dX10_rule_27 : decode cX10_rule 27 = .ok (.iload_n 2, 1) := by decide +kernel
theorem dX10_rule_28 : decode cX10_rule 28 = .ok (.ifCond .eq 19, 3) := by decide +kernel
theorem dX10_rule_31 : decode cX10_rule 31 = .ok (.aload_n 0, 1) := by decide +kernel
theorem dX10_rule_32 : decode cX10_rule 32 = .ok (.iload_n 1, 1) := by decide +kernel
theorem dX10_rule_33 : decode cX10_rule 33 = .ok (.invokevirtual 315, 3) := by decide +kernel
theorem dX10_rule_36 : decode cX10_rule 36 = .ok (.iinc 1 1, 3) := by decide +kernel
theorem dX10_rule_39 : decode cX10_rule 39 = .ok (.aload_n 0, 1) := by decide +kernel
theorem dX10_rule_40 : decode cX10_rule 40 = .ok (.invokevirtual 286, 3) := by decide +kernel
theorem dX10_rule_43 : decode cX10_rule 43 = .ok (.istore_n 2, 1) := by decide +kernel
theorem dX10_rule_44 : decode cX10_rule 44 = .ok (.goto (-17), 3) := by decide +kernel
theorem dX10_rule_47 : decode cX10_rule 47 = .ok (.aload_n 0, 1) := by decide +kernel
theorem dX10_rule_48 : decode cX10_rule 48 = .ok (.iconst 0, 1) := by decide +kernel
theorem dX10_rule_49 : decode cX10_rule 49 = .ok (.putfield 139, 3) := by decide +kernel
theorem dX10_rule_52 : decode cX10_rule 52 = .ok (.aload_n 0, 1) := by decide +kernel
theorem dX10_rule_53 : decode cX10_rule 53 = .ok (.getfield 72, 3) := by decide +kernel
theorem dX10_rule_56 : decode cX10_rule 56 = .ok (.aload_n 0, 1) := by decide +kernel
theorem dX10_rule_57 : decode cX10_rule 57 = .ok (.getfield 195, 3) := by decide +kernel
theorem dX10_rule_60 : decode cX10_rule 60 = .ok (.iload_n 1, 1) := by decide +kernel
theorem dX10_rule_61 : decode cX10_rule 61 = .ok (.iastore, 1) := by decide +kernel
theorem dX10_rule_62 : decode cX10_rule 62 = .ok (.aload_n 0, 1) := by decide +kernel
theorem dX10_rule_63 : decode cX10_rule 63 = .ok (.dup, 1) := by decide +kernel
theorem dX10_rule_64 : decode cX10_rule 64 = .ok (.getfield 312, 3) := by decide +kernel
theorem dX10_rule_67 : decode cX10_rule 67 = .ok (.aload_n 0, 1) := by decide +kernel
theorem dX10_rule_68 : decode cX10_rule 68 = .ok (.getfield 165, 3) := by decide +kernel
theorem dX10_rule_71 : decode cX10_rule 71 = .ok (.ifCond .ne 7, 3) := by decide +kernel
theorem dX10_rule_74 : decode cX10_rule 74 = .ok (.iconst 1, 1) := by decide +kernel
theorem dX10_rule_75 : decode cX10_rule 75 = .ok (.goto 4, 3) := by decide +kernel
theorem dX10_rule_78 : decode cX10_rule 78 = .ok (.iconst 0, 1) := by decide +kernel
theorem dX10_rule_79 : decode cX10_rule 79 = .ok (.iadd, 1) := by decide +kernel
theorem dX10_rule_80 : decode cX10_rule 80 = .ok (.putfield 312, 3) := by decide +kernel
theorem dX10_rule_83 : decode cX10_rule 83 = .ok (.aload_n 0, 1) := by decide +kernel
theorem dX10_rule_84 : decode cX10_rule 84 = .ok (.getfield 165, 3) := by decide +kernel
theorem dX10_rule_87 : decode cX10_rule 87 = .ok (.ifCond .le 13, 3) := by decide +kernel
theorem dX10_rule_90 : decode cX10_rule 90 = .ok (.bipush (-2), 2) := by decide +kernel
theorem dX10_rule_92 : decode cX10_rule 92 = .ok (.aload_n 0, 1) := by decide +kernel
theorem dX10_rule_93 : decode cX10_rule 93 = .ok (.getfield 165, 3) := by decide +kernel
theorem dX10_rule_96 : decode cX10_rule 96 = .ok (.isub, 1) := by decide +kernel
theorem dX10_rule_97 : decode cX10_rule 97 = .ok (.goto 9, 3) := by decide +kernel
theorem dX10_rule_100 : decode cX10_rule 100 = .ok (.aload_n 0, 1) := by decide +kernel
theorem dX10_rule_101 : decode cX10_rule 101 = .ok (.getfield 312, 3) := by decide +kernel
theorem dX10_rule_104 : decode cX10_rule 104 = .ok (.iconst 1, 1) := by decide +kernel
theorem dX10_rule_105 : decode cX10_rule 105 = .ok (.isub, 1) := by decide +kernel
theorem dX10_rule_106 : decode cX10_rule 106 = .ok (.ireturn, 1) := by decide +kernel
theorem dX10_force_0 : decode cX10_force 0 = .ok (.iload_n 1, 1) := by decide +kernel
theorem dX10_force_1 : decode cX10_force 1 = .ok (.i2l, 1) := by decide +kernel
theorem dX10_force_2 : decode cX10_force 2 = .ok (.ldc2_w 318, 3) := by decide +kernel
theorem dX10_force_5 : decode cX10_force 5 = .ok (.aload_n 0, 1) := by decide +kernel
theorem dX10_force_6 : decode cX10_force 6 = .ok (.getfield 312, 3) := by decide +kernel
theorem dX10_force_9 : decode cX10_force 9 = .ok (.iconst 1, 1) := by decide +kernel
theorem dX10_force_10 : decode cX10_force 10 = .ok (.isub, 1) := by decide +kernel
theorem dX10_force_11 : decode cX10_force 11 = .ok (.i2l, 1) := by decide +kernel
theorem dX10_force_12 : decode cX10_force 12 = .ok (.invokestatic 131, 3) := by decide +kernel
theorem dX10_force_15 : decode cX10_force 15 = .ok (.ifCond .ne 6, 3) := by decide +kernel
theorem dX10_force_18 : decode cX10_force 18 = .ok (.bipush (-2), 2) := by decide +kernel
theorem dX10_force_20 : decode cX10_force 20 = .ok (.ireturn, 1) := by decide +kernel
theorem dX10_force_21 : decode cX10_force 21 = .ok (.aload_n 0, 1) := by decide +kernel
theorem dX10_force_22 : decode cX10_force 22 = .ok (.getfield 9, 3) := by decide +kernel
theorem dX10_force_25 : decode cX10_force 25 = .ok (.bipush 8, 2) := by decide +kernel
theorem dX10_force_27 : decode cX10_force 27 = .ok (.iaload, 1) := by decide +kernel
theorem dX10_force_28 : decode cX10_force 28 = .ok (.istore_n 2, 1) := by decide +kernel
theorem dX10_force_29 : decode cX10_force 29 = .ok (.aload_n 0, 1) := by decide +kernel
theorem dX10_force_30 : decode cX10_force 30 = .ok (.getfield 9, 3) := by decide +kernel
theorem dX10_force_33 : decode cX10_force 33 = .ok (.bipush 8, 2) := by decide +kernel
theorem dX10_force_35 : decode cX10_force 35 = .ok (.iload_n 1, 1) := by decide +kernel
theorem dX10_force_36 : decode cX10_force 36 = .ok (.iastore, 1) := by decide +kernel
theorem dX10_force_37 : decode cX10_force 37 = .ok (.iload_n 2, 1) := by decide +kernel
theorem dX10_force_38 : decode cX10_force 38 = .ok (.ireturn, 1) := by decide +kernel
theorem dX10_wanted_0 : decode cX10_wanted 0 = .ok (.aload_n 0, 1) := by decide +kernel
theorem dX10_wanted_1 : decode cX10_wanted 1 = .ok (.getfield 9, 3) := by decide +kernel
theorem dX10_wanted_4 : decode cX10_wanted 4 = .ok (.bipush 8, 2) := by decide +kernel
theorem dX10_wanted_6 : decode cX10_wanted 6 = .ok (.iaload, 1) := by decide +kernel
theorem dX10_wanted_7 : decode cX10_wanted 7 = .ok (.istore_n 1, 1) := by decide +kernel
theorem dX10_wanted_8 : decode cX10_wanted 8 = .ok (.bipush 12, 2) := by decide +kernel
theorem dX10_wanted_10 : decode cX10_wanted 10 = .ok (.iload_n 1, 1) := by decide +kernel
theorem dX10_wanted_11 : decode cX10_wanted 11 = .ok (.imul, 1) := by decide +kernel
theorem dX10_wanted_12 : decode cX10_wanted 12 = .ok (.istore_n 2, 1) := by decide +kernel
theorem dX10_wanted_13 : decode cX10_wanted 13 = .ok (.iload_n 2, 1) := by decide +kernel
theorem dX10_wanted_14 : decode cX10_wanted 14 = .ok (.bipush 12, 2) := by decide +kernel
theorem dX10_wanted_16 : decode cX10_wanted 16 = .ok (.iload_n 1, 1) := by decide +kernel
theorem dX10_wanted_17 : decode cX10_wanted 17 = .ok (.imul, 1) := by decide +kernel
theorem dX10_wanted_18 : decode cX10_wanted 18 = .ok (.aload_n 0, 1) := by decide +kernel
theorem dX10_wanted_19 : decode cX10_wanted 19 = .ok (.getfield 72, 3) := by decide +kernel
theorem dX10_wanted_22 : decode cX10_wanted 22 = .ok (.iload_n 1, 1) := by decide +kernel
theorem dX10_wanted_23 : decode cX10_wanted 23 = .ok (.iaload, 1) := by decide +kernel
theorem dX10_wanted_24 : decode cX10_wanted 24 = .ok (.iadd, 1) := by decide +kernel
theorem dX10_wanted_25 : decode cX10_wanted 25 = .ok (.if_icmp .ge 64, 3) := by decide +kernel
theorem dX10_wanted_28 : decode cX10_wanted 28 = .ok (.aload_n 0, 1) := by decide +kernel
theorem dX10_wanted_29 : decode cX10_wanted 29 = .ok (.getfield 78, 3) := by decide +kernel
theorem dX10_wanted_32 : decode cX10_wanted 32 = .ok (.iload_n 2, 1) := by decide +kernel
theorem dX10_wanted_33 : decode cX10_wanted 33 = .ok (.iaload, 1) := by decide +kernel
theorem dX10_wanted_34 : decode cX10_wanted 34 = .ok (.aload_n 0, 1) := by decide +kernel
theorem dX10_wanted_35 : decode cX10_wanted 35 = .ok (.getfield 81, 3) := by decide +kernel
theorem dX10_wanted_38 : decode cX10_wanted 38 = .ok (.iload_n 2, 1) := by decide +kernel
theorem dX10_wanted_39 : decode cX10_wanted 39 = .ok (.iaload, 1) := by decide +kernel
theorem dX10_wanted_40 : decode cX10_wanted 40 = .ok (.if_icmp .eq 25, 3) := by decide +kernel
theorem dX10_wanted_43 : decode cX10_wanted 43 = .ok (.aload_n 0, 1) := by decide +kernel
theorem dX10_wanted_44 : decode cX10_wanted 44 = .ok (.iload_n 1, 1) := by decide +kernel
theorem dX10_wanted_45 : decode cX10_wanted 45 = .ok (.aload_n 0, 1) := by decide +kernel
theorem dX10_wanted_46 : decode cX10_wanted 46 = .ok (.getfield 78, 3) := by decide +kernel
theorem dX10_wanted_49 : decode cX10_wanted 49 = .ok (.iload_n 2, 1) := by decide +kernel
theorem dX10_wanted_50 : decode cX10_wanted 50 = .ok (.iaload, 1) := by decide +kernel
theorem dX10_wanted_51 : decode cX10_wanted 51 = .ok (.aload_n 0, 1) := by decide +kernel
theorem dX10_wanted_52 : decode cX10_wanted 52 = .ok (.getfield 81, 3) := by decide +kernel
theorem dX10_wanted_55 : decode cX10_wanted 55 = .ok (.iload_n 2, 1) := by decide +kernel
theorem dX10_wanted_56 : decode cX10_wanted 56 = .ok (.iaload, 1) := by decide +kernel
theorem dX10_wanted_57 : decode cX10_wanted 57 = .ok (.invokevirtual 320, 3) := by decide +kernel
theorem dX10_wanted_60 : decode cX10_wanted 60 = .ok (.lconst 1, 1) := by decide +kernel
theorem dX10_wanted_61 : decode cX10_wanted 61 = .ok (.lcmp, 1) := by decide +kernel
theorem dX10_wanted_62 : decode cX10_wanted 62 = .ok (.ifCond .ne 21, 3) := by decide +kernel
theorem dX10_wanted_65 : decode cX10_wanted 65 = .ok (.aload_n 0, 1) := by decide +kernel
theorem dX10_wanted_66 : decode cX10_wanted 66 = .ok (.iload_n 1, 1) := by decide +kernel
theorem dX10_wanted_67 : decode cX10_wanted 67 = .ok (.aload_n 0, 1) := by decide +kernel
theorem dX10_wanted_68 : decode cX10_wanted 68 = .ok (.getfield 75, 3) := by decide +kernel
theorem dX10_wanted_71 : decode cX10_wanted 71 = .ok (.iload_n 2, 1) := by decide +kernel
theorem dX10_wanted_72 : decode cX10_wanted 72 = .ok (.iaload, 1) := by decide +kernel
theorem dX10_wanted_73 : decode cX10_wanted 73 = .ok (.aload_n 0, 1) := by decide +kernel
theorem dX10_wanted_74 : decode cX10_wanted 74 = .ok (.getfield 78, 3) := by decide +kernel
theorem dX10_wanted_77 : decode cX10_wanted 77 = .ok (.iload_n 2, 1) := by decide +kernel
theorem dX10_wanted_78 : decode cX10_wanted 78 = .ok (.iaload, 1) := by decide +kernel
theorem dX10_wanted_79 : decode cX10_wanted 79 = .ok (.invokevirtual 320, 3) := by decide +kernel
theorem dX10_wanted_82 : decode cX10_wanted 82 = .ok (.lreturn, 1) := by decide +kernel
theorem dX10_wanted_83 : decode cX10_wanted 83 = .ok (.iinc 2 1, 3) := by decide +kernel
theorem dX10_wanted_86 : decode cX10_wanted 86 = .ok (.goto (-73), 3) := by decide +kernel
theorem dX10_wanted_89 : decode cX10_wanted 89 = .ok (.lconst 0, 1) := by decide +kernel
theorem dX10_wanted_90 : decode cX10_wanted 90 = .ok (.lreturn, 1) := by decide +kernel
theorem dX10_truth_0 : decode cX10_truth 0 = .ok (.iload_n 0, 1) := by decide +kernel
theorem dX10_truth_1 : decode cX10_truth 1 = .ok (.ifCond .eq 7, 3) := by decide +kernel
theorem dX10_truth_4 : decode cX10_truth 4 = .ok (.lconst 1, 1) := by decide +kernel
theorem dX10_truth_5 : decode cX10_truth 5 = .ok (.goto 4, 3) := by decide +kernel
theorem dX10_truth_8 : decode cX10_truth 8 = .ok (.lconst 0, 1) := by decide +kernel
theorem dX10_truth_9 : decode cX10_truth 9 = .ok (.lreturn, 1) := by decide +kernel
theorem dX10_both_0 : decode cX10_both 0 = .ok (.iload_n 0, 1) := by decide +kernel
theorem dX10_both_1 : decode cX10_both 1 = .ok (.tableswitch 190 2 15 #[71, 75, 111, 126, 141, 156, 171, 190, 186, 190, 190, 79, 83, 97], 71) := by decide +kernel
theorem dX10_both_72 : decode cX10_both 72 = .ok (.lload_n 1, 1) := by decide +kernel
theorem dX10_both_73 : decode cX10_both 73 = .ok (.lload_n 3, 1) := by decide +kernel
theorem dX10_both_74 : decode cX10_both 74 = .ok (.ladd, 1) := by decide +kernel
theorem dX10_both_75 : decode cX10_both 75 = .ok (.lreturn, 1) := by decide +kernel
theorem dX10_both_76 : decode cX10_both 76 = .ok (.lload_n 1, 1) := by decide +kernel
theorem dX10_both_77 : decode cX10_both 77 = .ok (.lload_n 3, 1) := by decide +kernel
theorem dX10_both_78 : decode cX10_both 78 = .ok (.lsub, 1) := by decide +kernel
theorem dX10_both_79 : decode cX10_both 79 = .ok (.lreturn, 1) := by decide +kernel
theorem dX10_both_80 : decode cX10_both 80 = .ok (.lload_n 1, 1) := by decide +kernel
theorem dX10_both_81 : decode cX10_both 81 = .ok (.lload_n 3, 1) := by decide +kernel
theorem dX10_both_82 : decode cX10_both 82 = .ok (.lmul, 1) := by decide +kernel
theorem dX10_both_83 : decode cX10_both 83 = .ok (.lreturn, 1) := by decide +kernel
theorem dX10_both_84 : decode cX10_both 84 = .ok (.lload_n 3, 1) := by decide +kernel
theorem dX10_both_85 : decode cX10_both 85 = .ok (.lconst 0, 1) := by decide +kernel
theorem dX10_both_86 : decode cX10_both 86 = .ok (.lcmp, 1) := by decide +kernel
theorem dX10_both_87 : decode cX10_both 87 = .ok (.ifCond .ne 7, 3) := by decide +kernel
theorem dX10_both_90 : decode cX10_both 90 = .ok (.lconst 0, 1) := by decide +kernel
theorem dX10_both_91 : decode cX10_both 91 = .ok (.goto 6, 3) := by decide +kernel
theorem dX10_both_94 : decode cX10_both 94 = .ok (.lload_n 1, 1) := by decide +kernel
theorem dX10_both_95 : decode cX10_both 95 = .ok (.lload_n 3, 1) := by decide +kernel
theorem dX10_both_96 : decode cX10_both 96 = .ok (.ldiv, 1) := by decide +kernel
theorem dX10_both_97 : decode cX10_both 97 = .ok (.lreturn, 1) := by decide +kernel
theorem dX10_both_98 : decode cX10_both 98 = .ok (.lload_n 3, 1) := by decide +kernel
theorem dX10_both_99 : decode cX10_both 99 = .ok (.lconst 0, 1) := by decide +kernel
theorem dX10_both_100 : decode cX10_both 100 = .ok (.lcmp, 1) := by decide +kernel
theorem dX10_both_101 : decode cX10_both 101 = .ok (.ifCond .ne 7, 3) := by decide +kernel
theorem dX10_both_104 : decode cX10_both 104 = .ok (.lconst 0, 1) := by decide +kernel
theorem dX10_both_105 : decode cX10_both 105 = .ok (.goto 6, 3) := by decide +kernel
theorem dX10_both_108 : decode cX10_both 108 = .ok (.lload_n 1, 1) := by decide +kernel
theorem dX10_both_109 : decode cX10_both 109 = .ok (.lload_n 3, 1) := by decide +kernel
theorem dX10_both_110 : decode cX10_both 110 = .ok (.lrem, 1) := by decide +kernel
theorem dX10_both_111 : decode cX10_both 111 = .ok (.lreturn, 1) := by decide +kernel
theorem dX10_both_112 : decode cX10_both 112 = .ok (.lload_n 1, 1) := by decide +kernel
theorem dX10_both_113 : decode cX10_both 113 = .ok (.lload_n 3, 1) := by decide +kernel
theorem dX10_both_114 : decode cX10_both 114 = .ok (.lcmp, 1) := by decide +kernel
theorem dX10_both_115 : decode cX10_both 115 = .ok (.ifCond .ge 7, 3) := by decide +kernel
theorem dX10_both_118 : decode cX10_both 118 = .ok (.iconst 1, 1) := by decide +kernel
theorem dX10_both_119 : decode cX10_both 119 = .ok (.goto 4, 3) := by decide +kernel
theorem dX10_both_122 : decode cX10_both 122 = .ok (.iconst 0, 1) := by decide +kernel
theorem dX10_both_123 : decode cX10_both 123 = .ok (.invokestatic 324, 3) := by decide +kernel
theorem dX10_both_126 : decode cX10_both 126 = .ok (.lreturn, 1) := by decide +kernel
theorem dX10_both_127 : decode cX10_both 127 = .ok (.lload_n 1, 1) := by decide +kernel
theorem dX10_both_128 : decode cX10_both 128 = .ok (.lload_n 3, 1) := by decide +kernel
theorem dX10_both_129 : decode cX10_both 129 = .ok (.lcmp, 1) := by decide +kernel
theorem dX10_both_130 : decode cX10_both 130 = .ok (.ifCond .gt 7, 3) := by decide +kernel
theorem dX10_both_133 : decode cX10_both 133 = .ok (.iconst 1, 1) := by decide +kernel
theorem dX10_both_134 : decode cX10_both 134 = .ok (.goto 4, 3) := by decide +kernel
theorem dX10_both_137 : decode cX10_both 137 = .ok (.iconst 0, 1) := by decide +kernel
theorem dX10_both_138 : decode cX10_both 138 = .ok (.invokestatic 324, 3) := by decide +kernel
theorem dX10_both_141 : decode cX10_both 141 = .ok (.lreturn, 1) := by decide +kernel
theorem dX10_both_142 : decode cX10_both 142 = .ok (.lload_n 1, 1) := by decide +kernel
theorem dX10_both_143 : decode cX10_both 143 = .ok (.lload_n 3, 1) := by decide +kernel
theorem dX10_both_144 : decode cX10_both 144 = .ok (.lcmp, 1) := by decide +kernel
theorem dX10_both_145 : decode cX10_both 145 = .ok (.ifCond .ne 7, 3) := by decide +kernel
theorem dX10_both_148 : decode cX10_both 148 = .ok (.iconst 1, 1) := by decide +kernel
theorem dX10_both_149 : decode cX10_both 149 = .ok (.goto 4, 3) := by decide +kernel
theorem dX10_both_152 : decode cX10_both 152 = .ok (.iconst 0, 1) := by decide +kernel
theorem dX10_both_153 : decode cX10_both 153 = .ok (.invokestatic 324, 3) := by decide +kernel
theorem dX10_both_156 : decode cX10_both 156 = .ok (.lreturn, 1) := by decide +kernel
theorem dX10_both_157 : decode cX10_both 157 = .ok (.lload_n 1, 1) := by decide +kernel
theorem dX10_both_158 : decode cX10_both 158 = .ok (.lload_n 3, 1) := by decide +kernel
theorem dX10_both_159 : decode cX10_both 159 = .ok (.lcmp, 1) := by decide +kernel
theorem dX10_both_160 : decode cX10_both 160 = .ok (.ifCond .lt 7, 3) := by decide +kernel
theorem dX10_both_163 : decode cX10_both 163 = .ok (.iconst 1, 1) := by decide +kernel
theorem dX10_both_164 : decode cX10_both 164 = .ok (.goto 4, 3) := by decide +kernel
theorem dX10_both_167 : decode cX10_both 167 = .ok (.iconst 0, 1) := by decide +kernel
theorem dX10_both_168 : decode cX10_both 168 = .ok (.invokestatic 324, 3) := by decide +kernel
theorem dX10_both_171 : decode cX10_both 171 = .ok (.lreturn, 1) := by decide +kernel
theorem dX10_both_172 : decode cX10_both 172 = .ok (.lload_n 1, 1) := by decide +kernel
theorem dX10_both_173 : decode cX10_both 173 = .ok (.lload_n 3, 1) := by decide +kernel
theorem dX10_both_174 : decode cX10_both 174 = .ok (.lcmp, 1) := by decide +kernel
theorem dX10_both_175 : decode cX10_both 175 = .ok (.ifCond .le 7, 3) := by decide +kernel
theorem dX10_both_178 : decode cX10_both 178 = .ok (.iconst 1, 1) := by decide +kernel
theorem dX10_both_179 : decode cX10_both 179 = .ok (.goto 4, 3) := by decide +kernel
theorem dX10_both_182 : decode cX10_both 182 = .ok (.iconst 0, 1) := by decide +kernel
theorem dX10_both_183 : decode cX10_both 183 = .ok (.invokestatic 324, 3) := by decide +kernel
theorem dX10_both_186 : decode cX10_both 186 = .ok (.lreturn, 1) := by decide +kernel
theorem dX10_both_187 : decode cX10_both 187 = .ok (.lload_n 1, 1) := by decide +kernel
theorem dX10_both_188 : decode cX10_both 188 = .ok (.lload_n 3, 1) := by decide +kernel
theorem dX10_both_189 : decode cX10_both 189 = .ok (.land, 1) := by decide +kernel
theorem dX10_both_190 : decode cX10_both 190 = .ok (.lreturn, 1) := by decide +kernel
theorem dX10_both_191 : decode cX10_both 191 = .ok (.lload_n 1, 1) := by decide +kernel
theorem dX10_both_192 : decode cX10_both 192 = .ok (.lload_n 3, 1) := by decide +kernel
theorem dX10_both_193 : decode cX10_both 193 = .ok (.lor, 1) := by decide +kernel
theorem dX10_both_194 : decode cX10_both 194 = .ok (.lreturn, 1) := by decide +kernel
theorem dX10_answer_0 : decode cX10_answer 0 = .ok (.iconst 0, 1) := by decide +kernel
theorem dX10_answer_1 : decode cX10_answer 1 = .ok (.istore 4, 2) := by decide +kernel
theorem dX10_answer_3 : decode cX10_answer 3 = .ok (.iload_n 2, 1) := by decide +kernel
theorem dX10_answer_4 : decode cX10_answer 4 = .ok (.istore 5, 2) := by decide +kernel
theorem dX10_answer_6 : decode cX10_answer 6 = .ok (.iload 5, 2) := by decide +kernel
theorem dX10_answer_8 : decode cX10_answer 8 = .ok (.iload_n 3, 1) := by decide +kernel
theorem dX10_answer_9 : decode cX10_answer 9 = .ok (.if_icmp .ge 144, 3) := by decide +kernel
theorem dX10_answer_12 : decode cX10_answer 12 = .ok (.aload_n 0, 1) := by decide +kernel
theorem dX10_answer_13 : decode cX10_answer 13 = .ok (.getfield 66, 3) := by decide +kernel
theorem dX10_answer_16 : decode cX10_answer 16 = .ok (.sipush 300, 3) := by decide +kernel
theorem dX10_answer_19 : decode cX10_answer 19 = .ok (.iload_n 1, 1) := by decide +kernel
theorem dX10_answer_20 : decode cX10_answer 20 = .ok (.imul, 1) := by decide +kernel
theorem dX10_answer_21 : decode cX10_answer 21 = .ok (.iload 5, 2) := by decide +kernel
theorem dX10_answer_23 : decode cX10_answer 23 = .ok (.iadd, 1) := by decide +kernel
theorem dX10_answer_24 : decode cX10_answer 24 = .ok (.iaload, 1) := by decide +kernel
theorem dX10_answer_25 : decode cX10_answer 25 = .ok (.istore 6, 2) := by decide +kernel
theorem dX10_answer_27 : decode cX10_answer 27 = .ok (.aload_n 0, 1) := by decide +kernel
theorem dX10_answer_28 : decode cX10_answer 28 = .ok (.getfield 69, 3) := by decide +kernel
theorem dX10_answer_31 : decode cX10_answer 31 = .ok (.sipush 300, 3) := by decide +kernel
theorem dX10_answer_34 : decode cX10_answer 34 = .ok (.iload_n 1, 1) := by decide +kernel
theorem dX10_answer_35 : decode cX10_answer 35 = .ok (.imul, 1) := by decide +kernel
theorem dX10_answer_36 : decode cX10_answer 36 = .ok (.iload 5, 2) := by decide +kernel
theorem dX10_answer_38 : decode cX10_answer 38 = .ok (.iadd, 1) := by decide +kernel
theorem dX10_answer_39 : decode cX10_answer 39 = .ok (.iaload, 1) := by decide +kernel
theorem dX10_answer_40 : decode cX10_answer 40 = .ok (.istore 7, 2) := by decide +kernel
theorem dX10_answer_42 : decode cX10_answer 42 = .ok (.iload 6, 2) := by decide +kernel
theorem dX10_answer_44 : decode cX10_answer 44 = .ok (.ifCond .eq 9, 3) := by decide +kernel
theorem dX10_answer_47 : decode cX10_answer 47 = .ok (.iload 6, 2) := by decide +kernel
theorem dX10_answer_49 : decode cX10_answer 49 = .ok (.iconst 1, 1) := by decide +kernel
theorem dX10_answer_50 : decode cX10_answer 50 = .ok (.if_icmp .ne 34, 3) := by decide +kernel
theorem dX10_answer_53 : decode cX10_answer 53 = .ok (.aload_n 0, 1) := by decide +kernel
theorem dX10_answer_54 : decode cX10_answer 54 = .ok (.getfield 91, 3) := by decide +kernel
theorem dX10_answer_57 : decode cX10_answer 57 = .ok (.iload 4, 2) := by decide +kernel
theorem dX10_answer_59 : decode cX10_answer 59 = .ok (.iload 6, 2) := by decide +kernel
theorem dX10_answer_61 : decode cX10_answer 61 = .ok (.ifCond .ne 9, 3) := by decide +kernel
theorem dX10_answer_64 : decode cX10_answer 64 = .ok (.iload 7, 2) := by decide +kernel
theorem dX10_answer_66 : decode cX10_answer 66 = .ok (.i2l, 1) := by decide +kernel
theorem dX10_answer_67 : decode cX10_answer 67 = .ok (.goto 10, 3) := by decide +kernel
theorem dX10_answer_70 : decode cX10_answer 70 = .ok (.aload_n 0, 1) := by decide +kernel
theorem dX10_answer_71 : decode cX10_answer 71 = .ok (.getfield 87, 3) := by decide +kernel
theorem dX10_answer_74 : decode cX10_answer 74 = .ok (.iload 7, 2) := by decide +kernel
theorem dX10_answer_76 : decode cX10_answer 76 = .ok (.laload, 1) := by decide +kernel
theorem dX10_answer_77 : decode cX10_answer 77 = .ok (.lastore, 1) := by decide +kernel
theorem dX10_answer_78 : decode cX10_answer 78 = .ok (.iinc 4 1, 3) := by decide +kernel
theorem dX10_answer_81 : decode cX10_answer 81 = .ok (.goto 66, 3) := by decide +kernel
theorem dX10_answer_84 : decode cX10_answer 84 = .ok (.iload 6, 2) := by decide +kernel
theorem dX10_answer_86 : decode cX10_answer 86 = .ok (.bipush 9, 2) := by decide +kernel
theorem dX10_answer_88 : decode cX10_answer 88 = .ok (.if_icmp .ne 26, 3) := by decide +kernel
theorem dX10_answer_91 : decode cX10_answer 91 = .ok (.aload_n 0, 1) := by decide +kernel
theorem dX10_answer_92 : decode cX10_answer 92 = .ok (.getfield 91, 3) := by decide +kernel
theorem dX10_answer_95 : decode cX10_answer 95 = .ok (.iload 4, 2) := by decide +kernel
theorem dX10_answer_97 : decode cX10_answer 97 = .ok (.iconst 1, 1) := by decide +kernel
theorem dX10_answer_98 : decode cX10_answer 98 = .ok (.isub, 1) := by decide +kernel
theorem dX10_answer_99 : decode cX10_answer 99 = .ok (.lconst 1, 1) := by decide +kernel
theorem dX10_answer_100 : decode cX10_answer 100 = .ok (.aload_n 0, 1) := by decide +kernel
theorem dX10_answer_101 : decode cX10_answer 101 = .ok (.getfield 91, 3) := by decide +kernel
theorem dX10_answer_104 : decode cX10_answer 104 = .ok (.iload 4, 2) := by decide +kernel
theorem dX10_answer_106 : decode cX10_answer 106 = .ok (.iconst 1, 1) := by decide +kernel
theorem dX10_answer_107 : decode cX10_answer 107 = .ok (.isub, 1) := by decide +kernel
theorem dX10_answer_108 : decode cX10_answer 108 = .ok (.laload, 1) := by decide +kernel
theorem dX10_answer_109 : decode cX10_answer 109 = .ok (.lsub, 1) := by decide +kernel
theorem dX10_answer_110 : decode cX10_answer 110 = .ok (.lastore, 1) := by decide +kernel
theorem dX10_answer_111 : decode cX10_answer 111 = .ok (.goto 36, 3) := by decide +kernel
theorem dX10_answer_114 : decode cX10_answer 114 = .ok (.iinc 4 (-1), 3) := by decide +kernel
theorem dX10_answer_117 : decode cX10_answer 117 = .ok (.aload_n 0, 1) := by decide +kernel
theorem dX10_answer_118 : decode cX10_answer 118 = .ok (.getfield 91, 3) := by decide +kernel
theorem dX10_answer_121 : decode cX10_answer 121 = .ok (.iload 4, 2) := by decide +kernel
theorem dX10_answer_123 : decode cX10_answer 123 = .ok (.iconst 1, 1) := by decide +kernel
theorem dX10_answer_124 : decode cX10_answer 124 = .ok (.isub, 1) := by decide +kernel
theorem dX10_answer_125 : decode cX10_answer 125 = .ok (.iload 6, 2) := by decide +kernel
theorem dX10_answer_127 : decode cX10_answer 127 = .ok (.aload_n 0, 1) := by decide +kernel
theorem dX10_answer_128 : decode cX10_answer 128 = .ok (.getfield 91, 3) := by decide +kernel
theorem dX10_answer_131 : decode cX10_answer 131 = .ok (.iload 4, 2) := by decide +kernel
theorem dX10_answer_133 : decode cX10_answer 133 = .ok (.iconst 1, 1) := by decide +kernel
theorem dX10_answer_134 : decode cX10_answer 134 = .ok (.isub, 1) := by decide +kernel
theorem dX10_answer_135 : decode cX10_answer 135 = .ok (.laload, 1) := by decide +kernel
theorem dX10_answer_136 : decode cX10_answer 136 = .ok (.aload_n 0, 1) := by decide +kernel
theorem dX10_answer_137 : decode cX10_answer 137 = .ok (.getfield 91, 3) := by decide +kernel
theorem dX10_answer_140 : decode cX10_answer 140 = .ok (.iload 4, 2) := by decide +kernel
theorem dX10_answer_142 : decode cX10_answer 142 = .ok (.laload, 1) := by decide +kernel
theorem dX10_answer_143 : decode cX10_answer 143 = .ok (.invokestatic 328, 3) := by decide +kernel
theorem dX10_answer_146 : decode cX10_answer 146 = .ok (.lastore, 1) := by decide +kernel
theorem dX10_answer_147 : decode cX10_answer 147 = .ok (.iinc 5 1, 3) := by decide +kernel
theorem dX10_answer_150 : decode cX10_answer 150 = .ok (.goto (-144), 3) := by decide +kernel
theorem dX10_answer_153 : decode cX10_answer 153 = .ok (.aload_n 0, 1) := by decide +kernel
theorem dX10_answer_154 : decode cX10_answer 154 = .ok (.getfield 91, 3) := by decide +kernel
theorem dX10_answer_157 : decode cX10_answer 157 = .ok (.iconst 0, 1) := by decide +kernel
theorem dX10_answer_158 : decode cX10_answer 158 = .ok (.laload, 1) := by decide +kernel
theorem dX10_answer_159 : decode cX10_answer 159 = .ok (.lreturn, 1) := by decide +kernel
theorem dX10_alikeOf_0 : decode cX10_alikeOf 0 = .ok (.iconst 0, 1) := by decide +kernel
theorem dX10_alikeOf_1 : decode cX10_alikeOf 1 = .ok (.istore_n 3, 1) := by decide +kernel
theorem dX10_alikeOf_2 : decode cX10_alikeOf 2 = .ok (.iconst 0, 1) := by decide +kernel
theorem dX10_alikeOf_3 : decode cX10_alikeOf 3 = .ok (.istore 4, 2) := by decide +kernel
theorem dX10_alikeOf_5 : decode cX10_alikeOf 5 = .ok (.iload 4, 2) := by decide +kernel
theorem dX10_alikeOf_7 : decode cX10_alikeOf 7 = .ok (.iconst 3, 1) := by decide +kernel
theorem dX10_alikeOf_8 : decode cX10_alikeOf 8 = .ok (.if_icmp .ge 42, 3) := by decide +kernel
theorem dX10_alikeOf_11 : decode cX10_alikeOf 11 = .ok (.iload_n 3, 1) := by decide +kernel
theorem dX10_alikeOf_12 : decode cX10_alikeOf 12 = .ok (.aload_n 0, 1) := by decide +kernel
theorem dX10_alikeOf_13 : decode cX10_alikeOf 13 = .ok (.getfield 13, 3) := by decide +kernel
theorem dX10_alikeOf_16 : decode cX10_alikeOf 16 = .ok (.iconst 3, 1) := by decide +kernel
theorem dX10_alikeOf_17 : decode cX10_alikeOf 17 = .ok (.iload_n 1, 1) := by decide +kernel
theorem dX10_alikeOf_18 : decode cX10_alikeOf 18 = .ok (.imul, 1) := by decide +kernel
theorem dX10_alikeOf_19 : decode cX10_alikeOf 19 = .ok (.iload 4, 2) := by decide +kernel
theorem dX10_alikeOf_21 : decode cX10_alikeOf 21 = .ok (.iadd, 1) := by decide +kernel
theorem dX10_alikeOf_22 : decode cX10_alikeOf 22 = .ok (.iaload, 1) := by decide +kernel
theorem dX10_alikeOf_23 : decode cX10_alikeOf 23 = .ok (.aload_n 0, 1) := by decide +kernel
theorem dX10_alikeOf_24 : decode cX10_alikeOf 24 = .ok (.getfield 13, 3) := by decide +kernel
theorem dX10_alikeOf_27 : decode cX10_alikeOf 27 = .ok (.iconst 3, 1) := by decide +kernel
theorem dX10_alikeOf_28 : decode cX10_alikeOf 28 = .ok (.iload_n 2, 1) := by decide +kernel
theorem dX10_alikeOf_29 : decode cX10_alikeOf 29 = .ok (.imul, 1) := by decide +kernel
theorem dX10_alikeOf_30 : decode cX10_alikeOf 30 = .ok (.iload 4, 2) := by decide +kernel
theorem dX10_alikeOf_32 : decode cX10_alikeOf 32 = .ok (.iadd, 1) := by decide +kernel
theorem dX10_alikeOf_33 : decode cX10_alikeOf 33 = .ok (.iaload, 1) := by decide +kernel
theorem dX10_alikeOf_34 : decode cX10_alikeOf 34 = .ok (.if_icmp .ne 7, 3) := by decide +kernel
theorem dX10_alikeOf_37 : decode cX10_alikeOf 37 = .ok (.iconst 1, 1) := by decide +kernel
theorem dX10_alikeOf_38 : decode cX10_alikeOf 38 = .ok (.goto 4, 3) := by decide +kernel
theorem dX10_alikeOf_41 : decode cX10_alikeOf 41 = .ok (.iconst 0, 1) := by decide +kernel
theorem dX10_alikeOf_42 : decode cX10_alikeOf 42 = .ok (.iadd, 1) := by decide +kernel
theorem dX10_alikeOf_43 : decode cX10_alikeOf 43 = .ok (.istore_n 3, 1) := by decide +kernel
theorem dX10_alikeOf_44 : decode cX10_alikeOf 44 = .ok (.iinc 4 1, 3) := by decide +kernel
theorem dX10_alikeOf_47 : decode cX10_alikeOf 47 = .ok (.goto (-42), 3) := by decide +kernel
theorem dX10_alikeOf_50 : decode cX10_alikeOf 50 = .ok (.iload_n 3, 1) := by decide +kernel
theorem dX10_alikeOf_51 : decode cX10_alikeOf 51 = .ok (.ireturn, 1) := by decide +kernel
theorem dX10_remembers_0 : decode cX10_remembers 0 = .ok (.aload_n 0, 1) := by decide +kernel
theorem dX10_remembers_1 : decode cX10_remembers 1 = .ok (.getfield 9, 3) := by decide +kernel
theorem dX10_remembers_4 : decode cX10_remembers 4 = .ok (.iconst 4, 1) := by decide +kernel
theorem dX10_remembers_5 : decode cX10_remembers 5 = .ok (.iaload, 1) := by decide +kernel
theorem dX10_remembers_6 : decode cX10_remembers 6 = .ok (.aload_n 0, 1) := by decide +kernel
theorem dX10_remembers_7 : decode cX10_remembers 7 = .ok (.getfield 22, 3) := by decide +kernel
theorem dX10_remembers_10 : decode cX10_remembers 10 = .ok (.iload_n 1, 1) := by decide +kernel
theorem dX10_remembers_11 : decode cX10_remembers 11 = .ok (.iaload, 1) := by decide +kernel
theorem dX10_remembers_12 : decode cX10_remembers 12 = .ok (.isub, 1) := by decide +kernel
theorem dX10_remembers_13 : decode cX10_remembers 13 = .ok (.aload_n 0, 1) := by decide +kernel
theorem dX10_remembers_14 : decode cX10_remembers 14 = .ok (.getfield 9, 3) := by decide +kernel
theorem dX10_remembers_17 : decode cX10_remembers 17 = .ok (.iconst 0, 1) := by decide +kernel
theorem dX10_remembers_18 : decode cX10_remembers 18 = .ok (.iaload, 1) := by decide +kernel
theorem dX10_remembers_19 : decode cX10_remembers 19 = .ok (.if_icmp .ge 7, 3) := by decide +kernel
theorem dX10_remembers_22 : decode cX10_remembers 22 = .ok (.iconst 1, 1) := by decide +kernel
theorem dX10_remembers_23 : decode cX10_remembers 23 = .ok (.goto 4, 3) := by decide +kernel
theorem dX10_remembers_26 : decode cX10_remembers 26 = .ok (.iconst 0, 1) := by decide +kernel
theorem dX10_remembers_27 : decode cX10_remembers 27 = .ok (.ireturn, 1) := by decide +kernel
theorem dX10_likeOf_0 : decode cX10_likeOf 0 = .ok (.iconst 0, 1) := by decide +kernel
theorem dX10_likeOf_1 : decode cX10_likeOf 1 = .ok (.istore_n 2, 1) := by decide +kernel
theorem dX10_likeOf_2 : decode cX10_likeOf 2 = .ok (.iconst 0, 1) := by decide +kernel
theorem dX10_likeOf_3 : decode cX10_likeOf 3 = .ok (.istore_n 3, 1) := by decide +kernel
theorem dX10_likeOf_4 : decode cX10_likeOf 4 = .ok (.iload_n 3, 1) := by decide +kernel
theorem dX10_likeOf_5 : decode cX10_likeOf 5 = .ok (.aload_n 0, 1) := by decide +kernel
theorem dX10_likeOf_6 : decode cX10_likeOf 6 = .ok (.getfield 9, 3) := by decide +kernel
theorem dX10_likeOf_9 : decode cX10_likeOf 9 = .ok (.iconst 2, 1) := by decide +kernel
theorem dX10_likeOf_10 : decode cX10_likeOf 10 = .ok (.iaload, 1) := by decide +kernel
theorem dX10_likeOf_11 : decode cX10_likeOf 11 = .ok (.if_icmp .ge 42, 3) := by decide +kernel
theorem dX10_likeOf_14 : decode cX10_likeOf 14 = .ok (.aload_n 0, 1) := by decide +kernel
theorem dX10_likeOf_15 : decode cX10_likeOf 15 = .ok (.iload_n 3, 1) := by decide +kernel
theorem dX10_likeOf_16 : decode cX10_likeOf 16 = .ok (.invokevirtual 332, 3) := by decide +kernel
theorem dX10_likeOf_19 : decode cX10_likeOf 19 = .ok (.ifCond .eq 12, 3) := by decide +kernel
theorem dX10_likeOf_22 : decode cX10_likeOf 22 = .ok (.aload_n 0, 1) := by decide +kernel
theorem dX10_likeOf_23 : decode cX10_likeOf 23 = .ok (.iload_n 1, 1) := by decide +kernel
theorem dX10_likeOf_24 : decode cX10_likeOf 24 = .ok (.iload_n 3, 1) := by decide +kernel
theorem dX10_likeOf_25 : decode cX10_likeOf 25 = .ok (.invokevirtual 335, 3) := by decide +kernel
theorem dX10_likeOf_28 : decode cX10_likeOf 28 = .ok (.goto 4, 3) := by decide +kernel
theorem dX10_likeOf_31 : decode cX10_likeOf 31 = .ok (.iconst 0, 1) := by decide +kernel
theorem dX10_likeOf_32 : decode cX10_likeOf 32 = .ok (.istore 4, 2) := by decide +kernel
theorem dX10_likeOf_34 : decode cX10_likeOf 34 = .ok (.iload 4, 2) := by decide +kernel
theorem dX10_likeOf_36 : decode cX10_likeOf 36 = .ok (.iload_n 2, 1) := by decide +kernel
theorem dX10_likeOf_37 : decode cX10_likeOf 37 = .ok (.if_icmp .le 8, 3) := by decide +kernel
theorem dX10_likeOf_40 : decode cX10_likeOf 40 = .ok (.iload 4, 2) := by decide +kernel
theorem dX10_likeOf_42 : decode cX10_likeOf 42 = .ok (.goto 4, 3) := by decide +kernel
theorem dX10_likeOf_45 : decode cX10_likeOf 45 = .ok (.iload_n 2, 1) := by decide +kernel
theorem dX10_likeOf_46 : decode cX10_likeOf 46 = .ok (.istore_n 2, 1) := by decide +kernel
theorem dX10_likeOf_47 : decode cX10_likeOf 47 = .ok (.iinc 3 1, 3) := by decide +kernel
theorem dX10_likeOf_50 : decode cX10_likeOf 50 = .ok (.goto (-46), 3) := by decide +kernel
theorem dX10_likeOf_53 : decode cX10_likeOf 53 = .ok (.iload_n 2, 1) := by decide +kernel
theorem dX10_likeOf_54 : decode cX10_likeOf 54 = .ok (.ireturn, 1) := by decide +kernel
theorem dX10_isNew_0 : decode cX10_isNew 0 = .ok (.aload_n 0, 1) := by decide +kernel
theorem dX10_isNew_1 : decode cX10_isNew 1 = .ok (.iload_n 1, 1) := by decide +kernel
theorem dX10_isNew_2 : decode cX10_isNew 2 = .ok (.invokevirtual 338, 3) := by decide +kernel
theorem dX10_isNew_5 : decode cX10_isNew 5 = .ok (.aload_n 0, 1) := by decide +kernel
theorem dX10_isNew_6 : decode cX10_isNew 6 = .ok (.getfield 9, 3) := by decide +kernel
theorem dX10_isNew_9 : decode cX10_isNew 9 = .ok (.iconst 1, 1) := by decide +kernel
theorem dX10_isNew_10 : decode cX10_isNew 10 = .ok (.iaload, 1) := by decide +kernel
theorem dX10_isNew_11 : decode cX10_isNew 11 = .ok (.if_icmp .ge 7, 3) := by decide +kernel
theorem dX10_isNew_14 : decode cX10_isNew 14 = .ok (.iconst 1, 1) := by decide +kernel
theorem dX10_isNew_15 : decode cX10_isNew 15 = .ok (.goto 4, 3) := by decide +kernel
theorem dX10_isNew_18 : decode cX10_isNew 18 = .ok (.iconst 0, 1) := by decide +kernel
theorem dX10_isNew_19 : decode cX10_isNew 19 = .ok (.ireturn, 1) := by decide +kernel
theorem dX10_sinceOf_0 : decode cX10_sinceOf 0 = .ok (.aload_n 0, 1) := by decide +kernel
theorem dX10_sinceOf_1 : decode cX10_sinceOf 1 = .ok (.getfield 9, 3) := by decide +kernel
theorem dX10_sinceOf_4 : decode cX10_sinceOf 4 = .ok (.iconst 4, 1) := by decide +kernel
theorem dX10_sinceOf_5 : decode cX10_sinceOf 5 = .ok (.iaload, 1) := by decide +kernel
theorem dX10_sinceOf_6 : decode cX10_sinceOf 6 = .ok (.aload_n 0, 1) := by decide +kernel
theorem dX10_sinceOf_7 : decode cX10_sinceOf 7 = .ok (.getfield 22, 3) := by decide +kernel
theorem dX10_sinceOf_10 : decode cX10_sinceOf 10 = .ok (.iload_n 1, 1) := by decide +kernel
theorem dX10_sinceOf_11 : decode cX10_sinceOf 11 = .ok (.iaload, 1) := by decide +kernel
theorem dX10_sinceOf_12 : decode cX10_sinceOf 12 = .ok (.isub, 1) := by decide +kernel
theorem dX10_sinceOf_13 : decode cX10_sinceOf 13 = .ok (.istore_n 2, 1) := by decide +kernel
theorem dX10_sinceOf_14 : decode cX10_sinceOf 14 = .ok (.iload_n 2, 1) := by decide +kernel
theorem dX10_sinceOf_15 : decode cX10_sinceOf 15 = .ok (.bipush 99, 2) := by decide +kernel
theorem dX10_sinceOf_17 : decode cX10_sinceOf 17 = .ok (.if_icmp .le 8, 3) := by decide +kernel
theorem dX10_sinceOf_20 : decode cX10_sinceOf 20 = .ok (.bipush 99, 2) := by decide +kernel
theorem dX10_sinceOf_22 : decode cX10_sinceOf 22 = .ok (.goto 4, 3) := by decide +kernel
theorem dX10_sinceOf_25 : decode cX10_sinceOf 25 = .ok (.iload_n 2, 1) := by decide +kernel
theorem dX10_sinceOf_26 : decode cX10_sinceOf 26 = .ok (.ireturn, 1) := by decide +kernel
theorem dX10_joke_0 : decode cX10_joke 0 = .ok (.aload_n 0, 1) := by decide +kernel
theorem dX10_joke_1 : decode cX10_joke 1 = .ok (.iload_n 1, 1) := by decide +kernel
theorem dX10_joke_2 : decode cX10_joke 2 = .ok (.invokevirtual 341, 3) := by decide +kernel
theorem dX10_joke_5 : decode cX10_joke 5 = .ok (.ifCond .ne 5, 3) := by decide +kernel
theorem dX10_joke_8 : decode cX10_joke 8 = .ok (.iconst (-1), 1) := by decide +kernel
theorem dX10_joke_9 : decode cX10_joke 9 = .ok (.ireturn, 1) := by decide +kernel
theorem dX10_joke_10 : decode cX10_joke 10 = .ok (.iload_n 2, 1) := by decide +kernel
theorem dX10_joke_11 : decode cX10_joke 11 = .ok (.tableswitch 102 0 5 #[37, 46, 57, 68, 82, 96], 37) := by decide +kernel
theorem dX10_joke_48 : decode cX10_joke 48 = .ok (.aload_n 0, 1) := by decide +kernel
theorem dX10_joke_49 : decode cX10_joke 49 = .ok (.getfield 13, 3) := by decide +kernel
theorem dX10_joke_52 : decode cX10_joke 52 = .ok (.iconst 3, 1) := by decide +kernel
theorem dX10_joke_53 : decode cX10_joke 53 = .ok (.iload_n 1, 1) := by decide +kernel
theorem dX10_joke_54 : decode cX10_joke 54 = .ok (.imul, 1) := by decide +kernel
theorem dX10_joke_55 : decode cX10_joke 55 = .ok (.iaload, 1) := by decide +kernel
theorem dX10_joke_56 : decode cX10_joke 56 = .ok (.ireturn, 1) := by decide +kernel
theorem dX10_joke_57 : decode cX10_joke 57 = .ok (.aload_n 0, 1) := by decide +kernel
theorem dX10_joke_58 : decode cX10_joke 58 = .ok (.getfield 13, 3) := by decide +kernel
theorem dX10_joke_61 : decode cX10_joke 61 = .ok (.iconst 3, 1) := by decide +kernel
theorem dX10_joke_62 : decode cX10_joke 62 = .ok (.iload_n 1, 1) := by decide +kernel
theorem dX10_joke_63 : decode cX10_joke 63 = .ok (.imul, 1) := by decide +kernel
theorem dX10_joke_64 : decode cX10_joke 64 = .ok (.iconst 1, 1) := by decide +kernel
theorem dX10_joke_65 : decode cX10_joke 65 = .ok (.iadd, 1) := by decide +kernel
theorem dX10_joke_66 : decode cX10_joke 66 = .ok (.iaload, 1) := by decide +kernel
theorem dX10_joke_67 : decode cX10_joke 67 = .ok (.ireturn, 1) := by decide +kernel
theorem dX10_joke_68 : decode cX10_joke 68 = .ok (.aload_n 0, 1) := by decide +kernel
theorem dX10_joke_69 : decode cX10_joke 69 = .ok (.getfield 13, 3) := by decide +kernel
theorem dX10_joke_72 : decode cX10_joke 72 = .ok (.iconst 3, 1) := by decide +kernel
theorem dX10_joke_73 : decode cX10_joke 73 = .ok (.iload_n 1, 1) := by decide +kernel
theorem dX10_joke_74 : decode cX10_joke 74 = .ok (.imul, 1) := by decide +kernel
theorem dX10_joke_75 : decode cX10_joke 75 = .ok (.iconst 2, 1) := by decide +kernel
theorem dX10_joke_76 : decode cX10_joke 76 = .ok (.iadd, 1) := by decide +kernel
theorem dX10_joke_77 : decode cX10_joke 77 = .ok (.iaload, 1) := by decide +kernel
theorem dX10_joke_78 : decode cX10_joke 78 = .ok (.ireturn, 1) := by decide +kernel
theorem dX10_joke_79 : decode cX10_joke 79 = .ok (.aload_n 0, 1) := by decide +kernel
theorem dX10_joke_80 : decode cX10_joke 80 = .ok (.iload_n 1, 1) := by decide +kernel
theorem dX10_joke_81 : decode cX10_joke 81 = .ok (.invokevirtual 332, 3) := by decide +kernel
theorem dX10_joke_84 : decode cX10_joke 84 = .ok (.ifCond .eq 7, 3) := by decide +kernel
theorem dX10_joke_87 : decode cX10_joke 87 = .ok (.iconst 1, 1) := by decide +kernel
theorem dX10_joke_88 : decode cX10_joke 88 = .ok (.goto 4, 3) := by decide +kernel
theorem dX10_joke_91 : decode cX10_joke 91 = .ok (.iconst 0, 1) := by decide +kernel
theorem dX10_joke_92 : decode cX10_joke 92 = .ok (.ireturn, 1) := by decide +kernel
theorem dX10_joke_93 : decode cX10_joke 93 = .ok (.aload_n 0, 1) := by decide +kernel
theorem dX10_joke_94 : decode cX10_joke 94 = .ok (.iload_n 1, 1) := by decide +kernel
theorem dX10_joke_95 : decode cX10_joke 95 = .ok (.invokevirtual 344, 3) := by decide +kernel
theorem dX10_joke_98 : decode cX10_joke 98 = .ok (.ifCond .eq 7, 3) := by decide +kernel
theorem dX10_joke_101 : decode cX10_joke 101 = .ok (.iconst 1, 1) := by decide +kernel
theorem dX10_joke_102 : decode cX10_joke 102 = .ok (.goto 4, 3) := by decide +kernel
theorem dX10_joke_105 : decode cX10_joke 105 = .ok (.iconst 0, 1) := by decide +kernel
theorem dX10_joke_106 : decode cX10_joke 106 = .ok (.ireturn, 1) := by decide +kernel
theorem dX10_joke_107 : decode cX10_joke 107 = .ok (.aload_n 0, 1) := by decide +kernel
theorem dX10_joke_108 : decode cX10_joke 108 = .ok (.iload_n 1, 1) := by decide +kernel
theorem dX10_joke_109 : decode cX10_joke 109 = .ok (.invokevirtual 347, 3) := by decide +kernel
theorem dX10_joke_112 : decode cX10_joke 112 = .ok (.ireturn, 1) := by decide +kernel
theorem dX10_joke_113 : decode cX10_joke 113 = .ok (.iconst (-1), 1) := by decide +kernel
theorem dX10_joke_114 : decode cX10_joke 114 = .ok (.ireturn, 1) := by decide +kernel
theorem dX10_ship_0 : decode cX10_ship 0 = .ok (.aload_n 0, 1) := by decide +kernel
theorem dX10_ship_1 : decode cX10_ship 1 = .ok (.iload_n 1, 1) := by decide +kernel
theorem dX10_ship_2 : decode cX10_ship 2 = .ok (.invokevirtual 135, 3) := by decide +kernel
theorem dX10_ship_5 : decode cX10_ship 5 = .ok (.ifCond .ne 6, 3) := by decide +kernel
theorem dX10_ship_8 : decode cX10_ship 8 = .ok (.bipush (-2), 2) := by decide +kernel
theorem dX10_ship_10 : decode cX10_ship 10 = .ok (.ireturn, 1) := by decide +kernel
theorem dX10_ship_11 : decode cX10_ship 11 = .ok (.iload_n 2, 1) := by decide +kernel
theorem dX10_ship_12 : decode cX10_ship 12 = .ok (.tableswitch 60 0 3 #[32, 39, 46, 53], 32) := by decide +kernel
theorem dX10_ship_44 : decode cX10_ship 44 = .ok (.aload_n 0, 1) := by decide +kernel
theorem dX10_ship_45 : decode cX10_ship 45 = .ok (.getfield 16, 3) := by decide +kernel
theorem dX10_ship_48 : decode cX10_ship 48 = .ok (.iload_n 1, 1) := by decide +kernel
theorem dX10_ship_49 : decode cX10_ship 49 = .ok (.iaload, 1) := by decide +kernel
theorem dX10_ship_50 : decode cX10_ship 50 = .ok (.ireturn, 1) := by decide +kernel
theorem dX10_ship_51 : decode cX10_ship 51 = .ok (.aload_n 0, 1) := by decide +kernel
theorem dX10_ship_52 : decode cX10_ship 52 = .ok (.getfield 19, 3) := by decide +kernel
theorem dX10_ship_55 : decode cX10_ship 55 = .ok (.iload_n 1, 1) := by decide +kernel
theorem dX10_ship_56 : decode cX10_ship 56 = .ok (.iaload, 1) := by decide +kernel
theorem dX10_ship_57 : decode cX10_ship 57 = .ok (.ireturn, 1) := by decide +kernel
theorem dX10_ship_58 : decode cX10_ship 58 = .ok (.aload_n 0, 1) := by decide +kernel
theorem dX10_ship_59 : decode cX10_ship 59 = .ok (.getfield 25, 3) := by decide +kernel
theorem dX10_ship_62 : decode cX10_ship 62 = .ok (.iload_n 1, 1) := by decide +kernel
theorem dX10_ship_63 : decode cX10_ship 63 = .ok (.iaload, 1) := by decide +kernel
theorem dX10_ship_64 : decode cX10_ship 64 = .ok (.ireturn, 1) := by decide +kernel
theorem dX10_ship_65 : decode cX10_ship 65 = .ok (.aload_n 0, 1) := by decide +kernel
theorem dX10_ship_66 : decode cX10_ship 66 = .ok (.getfield 28, 3) := by decide +kernel
theorem dX10_ship_69 : decode cX10_ship 69 = .ok (.iload_n 1, 1) := by decide +kernel
theorem dX10_ship_70 : decode cX10_ship 70 = .ok (.iaload, 1) := by decide +kernel
theorem dX10_ship_71 : decode cX10_ship 71 = .ok (.ireturn, 1) := by decide +kernel
theorem dX10_ship_72 : decode cX10_ship 72 = .ok (.bipush (-2), 2) := by decide +kernel
theorem dX10_ship_74 : decode cX10_ship 74 = .ok (.ireturn, 1) := by decide +kernel
theorem dX10_waiting_0 : decode cX10_waiting 0 = .ok (.iconst 0, 1) := by decide +kernel
theorem dX10_waiting_1 : decode cX10_waiting 1 = .ok (.istore_n 1, 1) := by decide +kernel
theorem dX10_waiting_2 : decode cX10_waiting 2 = .ok (.iconst 0, 1) := by decide +kernel
theorem dX10_waiting_3 : decode cX10_waiting 3 = .ok (.istore_n 2, 1) := by decide +kernel
theorem dX10_waiting_4 : decode cX10_waiting 4 = .ok (.iload_n 2, 1) := by decide +kernel
theorem dX10_waiting_5 : decode cX10_waiting 5 = .ok (.aload_n 0, 1) := by decide +kernel
theorem dX10_waiting_6 : decode cX10_waiting 6 = .ok (.getfield 9, 3) := by decide +kernel
theorem dX10_waiting_9 : decode cX10_waiting 9 = .ok (.iconst 3, 1) := by decide +kernel
theorem dX10_waiting_10 : decode cX10_waiting 10 = .ok (.iaload, 1) := by decide +kernel
theorem dX10_waiting_11 : decode cX10_waiting 11 = .ok (.if_icmp .ge 27, 3) := by decide +kernel
theorem dX10_waiting_14 : decode cX10_waiting 14 = .ok (.iload_n 1, 1) := by decide +kernel
theorem dX10_waiting_15 : decode cX10_waiting 15 = .ok (.aload_n 0, 1) := by decide +kernel
theorem dX10_waiting_16 : decode cX10_waiting 16 = .ok (.iload_n 2, 1) := by decide +kernel
theorem dX10_waiting_17 : decode cX10_waiting 17 = .ok (.invokevirtual 350, 3) := by decide +kernel
theorem dX10_waiting_20 : decode cX10_waiting 20 = .ok (.ifCond .eq 9, 3) := by decide +kernel
theorem dX10_waiting_23 : decode cX10_waiting 23 = .ok (.iconst 1, 1) := by decide +kernel
theorem dX10_waiting_24 : decode cX10_waiting 24 = .ok (.iload_n 2, 1) := by decide +kernel
theorem dX10_waiting_25 : decode cX10_waiting 25 = .ok (.ishl, 1) := by decide +kernel
theorem dX10_waiting_26 : decode cX10_waiting 26 = .ok (.goto 4, 3) := by decide +kernel
theorem dX10_waiting_29 : decode cX10_waiting 29 = .ok (.iconst 0, 1) := by decide +kernel
theorem dX10_waiting_30 : decode cX10_waiting 30 = .ok (.ior, 1) := by decide +kernel
theorem dX10_waiting_31 : decode cX10_waiting 31 = .ok (.istore_n 1, 1) := by decide +kernel
theorem dX10_waiting_32 : decode cX10_waiting 32 = .ok (.iinc 2 1, 3) := by decide +kernel
theorem dX10_waiting_35 : decode cX10_waiting 35 = .ok (.goto (-31), 3) := by decide +kernel
theorem dX10_waiting_38 : decode cX10_waiting 38 = .ok (.iload_n 1, 1) := by decide +kernel
theorem dX10_waiting_39 : decode cX10_waiting 39 = .ok (.ireturn, 1) := by decide +kernel
theorem dX10_knownBy_0 : decode cX10_knownBy 0 = .ok (.iconst 0, 1) := by decide +kernel
theorem dX10_knownBy_1 : decode cX10_knownBy 1 = .ok (.istore_n 2, 1) := by decide +kernel
theorem dX10_knownBy_2 : decode cX10_knownBy 2 = .ok (.iconst 0, 1) := by decide +kernel
theorem dX10_knownBy_3 : decode cX10_knownBy 3 = .ok (.istore_n 3, 1) := by decide +kernel
theorem dX10_knownBy_4 : decode cX10_knownBy 4 = .ok (.iload_n 3, 1) := by decide +kernel
theorem dX10_knownBy_5 : decode cX10_knownBy 5 = .ok (.aload_n 0, 1) := by decide +kernel
theorem dX10_knownBy_6 : decode cX10_knownBy 6 = .ok (.getfield 9, 3) := by decide +kernel
theorem dX10_knownBy_9 : decode cX10_knownBy 9 = .ok (.iconst 3, 1) := by decide +kernel
theorem dX10_knownBy_10 : decode cX10_knownBy 10 = .ok (.iaload, 1) := by decide +kernel
theorem dX10_knownBy_11 : decode cX10_knownBy 11 = .ok (.if_icmp .ge 38, 3) := by decide +kernel
theorem dX10_knownBy_14 : decode cX10_knownBy 14 = .ok (.iload_n 2, 1) := by decide +kernel
theorem dX10_knownBy_15 : decode cX10_knownBy 15 = .ok (.aload_n 0, 1) := by decide +kernel
theorem dX10_knownBy_16 : decode cX10_knownBy 16 = .ok (.iload_n 3, 1) := by decide +kernel
theorem dX10_knownBy_17 : decode cX10_knownBy 17 = .ok (.invokevirtual 350, 3) := by decide +kernel
theorem dX10_knownBy_20 : decode cX10_knownBy 20 = .ok (.ifCond .eq 20, 3) := by decide +kernel
theorem dX10_knownBy_23 : decode cX10_knownBy 23 = .ok (.aload_n 0, 1) := by decide +kernel
theorem dX10_knownBy_24 : decode cX10_knownBy 24 = .ok (.getfield 25, 3) := by decide +kernel
theorem dX10_knownBy_27 : decode cX10_knownBy 27 = .ok (.iload_n 3, 1) := by decide +kernel
theorem dX10_knownBy_28 : decode cX10_knownBy 28 = .ok (.iaload, 1) := by decide +kernel
theorem dX10_knownBy_29 : decode cX10_knownBy 29 = .ok (.iload_n 1, 1) := by decide +kernel
theorem dX10_knownBy_30 : decode cX10_knownBy 30 = .ok (.invokestatic 353, 3) := by decide +kernel
theorem dX10_knownBy_33 : decode cX10_knownBy 33 = .ok (.ifCond .eq 7, 3) := by decide +kernel
theorem dX10_knownBy_36 : decode cX10_knownBy 36 = .ok (.iconst 1, 1) := by decide +kernel
theorem dX10_knownBy_37 : decode cX10_knownBy 37 = .ok (.goto 4, 3) := by decide +kernel
theorem dX10_knownBy_40 : decode cX10_knownBy 40 = .ok (.iconst 0, 1) := by decide +kernel
theorem dX10_knownBy_41 : decode cX10_knownBy 41 = .ok (.iadd, 1) := by decide +kernel
theorem dX10_knownBy_42 : decode cX10_knownBy 42 = .ok (.istore_n 2, 1) := by decide +kernel
theorem dX10_knownBy_43 : decode cX10_knownBy 43 = .ok (.iinc 3 1, 3) := by decide +kernel
theorem dX10_knownBy_46 : decode cX10_knownBy 46 = .ok (.goto (-42), 3) := by decide +kernel
theorem dX10_knownBy_49 : decode cX10_knownBy 49 = .ok (.iload_n 2, 1) := by decide +kernel
theorem dX10_knownBy_50 : decode cX10_knownBy 50 = .ok (.ireturn, 1) := by decide +kernel
theorem dX10_howManyPassed_0 : decode cX10_howManyPassed 0 = .ok (.aload_n 0, 1) := by decide +kernel
theorem dX10_howManyPassed_1 : decode cX10_howManyPassed 1 = .ok (.getfield 9, 3) := by decide +kernel
theorem dX10_howManyPassed_4 : decode cX10_howManyPassed 4 = .ok (.iconst 3, 1) := by decide +kernel
theorem dX10_howManyPassed_5 : decode cX10_howManyPassed 5 = .ok (.iaload, 1) := by decide +kernel
theorem dX10_howManyPassed_6 : decode cX10_howManyPassed 6 = .ok (.aload_n 0, 1) := by decide +kernel
theorem dX10_howManyPassed_7 : decode cX10_howManyPassed 7 = .ok (.invokevirtual 356, 3) := by decide +kernel
theorem dX10_howManyPassed_10 : decode cX10_howManyPassed 10 = .ok (.invokestatic 358, 3) := by decide +kernel
theorem dX10_howManyPassed_13 : decode cX10_howManyPassed 13 = .ok (.isub, 1) := by decide +kernel
theorem dX10_howManyPassed_14 : decode cX10_howManyPassed 14 = .ok (.ireturn, 1) := by decide +kernel
theorem dX10_tells_0 : decode cX10_tells 0 = .ok (.aload_n 0, 1) := by decide +kernel
theorem dX10_tells_1 : decode cX10_tells 1 = .ok (.iload_n 2, 1) := by decide +kernel
theorem dX10_tells_2 : decode cX10_tells 2 = .ok (.invokevirtual 344, 3) := by decide +kernel
theorem dX10_tells_5 : decode cX10_tells 5 = .ok (.istore_n 3, 1) := by decide +kernel
theorem dX10_tells_6 : decode cX10_tells 6 = .ok (.aload_n 0, 1) := by decide +kernel
theorem dX10_tells_7 : decode cX10_tells 7 = .ok (.getfield 22, 3) := by decide +kernel
theorem dX10_tells_10 : decode cX10_tells 10 = .ok (.iload_n 2, 1) := by decide +kernel
theorem dX10_tells_11 : decode cX10_tells 11 = .ok (.aload_n 0, 1) := by decide +kernel
theorem dX10_tells_12 : decode cX10_tells 12 = .ok (.getfield 9, 3) := by decide +kernel
theorem dX10_tells_15 : decode cX10_tells 15 = .ok (.iconst 4, 1) := by decide +kernel
theorem dX10_tells_16 : decode cX10_tells 16 = .ok (.iaload, 1) := by decide +kernel
theorem dX10_tells_17 : decode cX10_tells 17 = .ok (.iastore, 1) := by decide +kernel
theorem dX10_tells_18 : decode cX10_tells 18 = .ok (.iload_n 3, 1) := by decide +kernel
theorem dX10_tells_19 : decode cX10_tells 19 = .ok (.ifCond .eq 29, 3) := by decide +kernel
theorem dX10_tells_22 : decode cX10_tells 22 = .ok (.aload_n 0, 1) := by decide +kernel
theorem dX10_tells_23 : decode cX10_tells 23 = .ok (.getfield 28, 3) := by decide +kernel
theorem dX10_tells_26 : decode cX10_tells 26 = .ok (.iload_n 1, 1) := by decide +kernel
theorem dX10_tells_27 : decode cX10_tells 27 = .ok (.aload_n 0, 1) := by decide +kernel
theorem dX10_tells_28 : decode cX10_tells 28 = .ok (.getfield 9, 3) := by decide +kernel
theorem dX10_tells_31 : decode cX10_tells 31 = .ok (.iconst 4, 1) := by decide +kernel
theorem dX10_tells_32 : decode cX10_tells 32 = .ok (.iaload, 1) := by decide +kernel
theorem dX10_tells_33 : decode cX10_tells 33 = .ok (.iastore, 1) := by decide +kernel
theorem dX10_tells_34 : decode cX10_tells 34 = .ok (.aload_n 0, 1) := by decide +kernel
theorem dX10_tells_35 : decode cX10_tells 35 = .ok (.getfield 9, 3) := by decide +kernel
theorem dX10_tells_38 : decode cX10_tells 38 = .ok (.iconst 5, 1) := by decide +kernel
theorem dX10_tells_39 : decode cX10_tells 39 = .ok (.dup2, 1) := by decide +kernel
theorem dX10_tells_40 : decode cX10_tells 40 = .ok (.iaload, 1) := by decide +kernel
theorem dX10_tells_41 : decode cX10_tells 41 = .ok (.aload_n 0, 1) := by decide +kernel
theorem dX10_tells_42 : decode cX10_tells 42 = .ok (.iload_n 1, 1) := by decide +kernel
theorem dX10_tells_43 : decode cX10_tells 43 = .ok (.invokevirtual 361, 3) := by decide +kernel
theorem dX10_tells_46 : decode cX10_tells 46 = .ok (.iadd, 1) := by decide +kernel
theorem dX10_tells_47 : decode cX10_tells 47 = .ok (.iastore, 1) := by decide +kernel
theorem dX10_tells_48 : decode cX10_tells 48 = .ok (.iload_n 3, 1) := by decide +kernel
theorem dX10_tells_49 : decode cX10_tells 49 = .ok (.ireturn, 1) := by decide +kernel
theorem dX10_earns_0 : decode cX10_earns 0 = .ok (.aload_n 0, 1) := by decide +kernel
theorem dX10_earns_1 : decode cX10_earns 1 = .ok (.getfield 28, 3) := by decide +kernel
theorem dX10_earns_4 : decode cX10_earns 4 = .ok (.iload_n 1, 1) := by decide +kernel
theorem dX10_earns_5 : decode cX10_earns 5 = .ok (.iaload, 1) := by decide +kernel
theorem dX10_earns_6 : decode cX10_earns 6 = .ok (.iconst (-1), 1) := by decide +kernel
theorem dX10_earns_7 : decode cX10_earns 7 = .ok (.if_icmp .eq 27, 3) := by decide +kernel
theorem dX10_earns_10 : decode cX10_earns 10 = .ok (.aload_n 0, 1) := by decide +kernel
theorem dX10_earns_11 : decode cX10_earns 11 = .ok (.getfield 28, 3) := by decide +kernel
theorem dX10_earns_14 : decode cX10_earns 14 = .ok (.iload_n 1, 1) := by decide +kernel
theorem dX10_earns_15 : decode cX10_earns 15 = .ok (.iaload, 1) := by decide +kernel
theorem dX10_earns_16 : decode cX10_earns 16 = .ok (.aload_n 0, 1) := by decide +kernel
theorem dX10_earns_17 : decode cX10_earns 17 = .ok (.getfield 19, 3) := by decide +kernel
theorem dX10_earns_20 : decode cX10_earns 20 = .ok (.iload_n 1, 1) := by decide +kernel
theorem dX10_earns_21 : decode cX10_earns 21 = .ok (.iaload, 1) := by decide +kernel
theorem dX10_earns_22 : decode cX10_earns 22 = .ok (.if_icmp .gt 12, 3) := by decide +kernel
theorem dX10_earns_25 : decode cX10_earns 25 = .ok (.aload_n 0, 1) := by decide +kernel
theorem dX10_earns_26 : decode cX10_earns 26 = .ok (.getfield 16, 3) := by decide +kernel
theorem dX10_earns_29 : decode cX10_earns 29 = .ok (.iload_n 1, 1) := by decide +kernel
theorem dX10_earns_30 : decode cX10_earns 30 = .ok (.iaload, 1) := by decide +kernel
theorem dX10_earns_31 : decode cX10_earns 31 = .ok (.goto 4, 3) := by decide +kernel
theorem dX10_earns_34 : decode cX10_earns 34 = .ok (.iconst 0, 1) := by decide +kernel
theorem dX10_earns_35 : decode cX10_earns 35 = .ok (.ireturn, 1) := by decide +kernel
theorem dX10_sumOf_0 : decode cX10_sumOf 0 = .ok (.aload_n 0, 1) := by decide +kernel
theorem dX10_sumOf_1 : decode cX10_sumOf 1 = .ok (.getfield 87, 3) := by decide +kernel
theorem dX10_sumOf_4 : decode cX10_sumOf 4 = .ok (.iconst 0, 1) := by decide +kernel
theorem dX10_sumOf_5 : decode cX10_sumOf 5 = .ok (.iload_n 1, 1) := by decide +kernel
theorem dX10_sumOf_6 : decode cX10_sumOf 6 = .ok (.i2l, 1) := by decide +kernel
theorem dX10_sumOf_7 : decode cX10_sumOf 7 = .ok (.lastore, 1) := by decide +kernel
theorem dX10_sumOf_8 : decode cX10_sumOf 8 = .ok (.aload_n 0, 1) := by decide +kernel
theorem dX10_sumOf_9 : decode cX10_sumOf 9 = .ok (.getfield 87, 3) := by decide +kernel
theorem dX10_sumOf_12 : decode cX10_sumOf 12 = .ok (.iconst 1, 1) := by decide +kernel
theorem dX10_sumOf_13 : decode cX10_sumOf 13 = .ok (.iload_n 2, 1) := by decide +kernel
theorem dX10_sumOf_14 : decode cX10_sumOf 14 = .ok (.i2l, 1) := by decide +kernel
theorem dX10_sumOf_15 : decode cX10_sumOf 15 = .ok (.lastore, 1) := by decide +kernel
theorem dX10_sumOf_16 : decode cX10_sumOf 16 = .ok (.aload_n 0, 1) := by decide +kernel
theorem dX10_sumOf_17 : decode cX10_sumOf 17 = .ok (.getfield 87, 3) := by decide +kernel
theorem dX10_sumOf_20 : decode cX10_sumOf 20 = .ok (.iconst 2, 1) := by decide +kernel
theorem dX10_sumOf_21 : decode cX10_sumOf 21 = .ok (.aload_n 0, 1) := by decide +kernel
theorem dX10_sumOf_22 : decode cX10_sumOf 22 = .ok (.getfield 16, 3) := by decide +kernel
theorem dX10_sumOf_25 : decode cX10_sumOf 25 = .ok (.iload_n 1, 1) := by decide +kernel
theorem dX10_sumOf_26 : decode cX10_sumOf 26 = .ok (.iaload, 1) := by decide +kernel
theorem dX10_sumOf_27 : decode cX10_sumOf 27 = .ok (.i2l, 1) := by decide +kernel
theorem dX10_sumOf_28 : decode cX10_sumOf 28 = .ok (.lastore, 1) := by decide +kernel
theorem dX10_sumOf_29 : decode cX10_sumOf 29 = .ok (.aload_n 0, 1) := by decide +kernel
theorem dX10_sumOf_30 : decode cX10_sumOf 30 = .ok (.getfield 87, 3) := by decide +kernel
theorem dX10_sumOf_33 : decode cX10_sumOf 33 = .ok (.iconst 3, 1) := by decide +kernel
theorem dX10_sumOf_34 : decode cX10_sumOf 34 = .ok (.aload_n 0, 1) := by decide +kernel
theorem dX10_sumOf_35 : decode cX10_sumOf 35 = .ok (.getfield 19, 3) := by decide +kernel
theorem dX10_sumOf_38 : decode cX10_sumOf 38 = .ok (.iload_n 1, 1) := by decide +kernel
theorem dX10_sumOf_39 : decode cX10_sumOf 39 = .ok (.iaload, 1) := by decide +kernel
theorem dX10_sumOf_40 : decode cX10_sumOf 40 = .ok (.aload_n 0, 1) := by decide +kernel
theorem dX10_sumOf_41 : decode cX10_sumOf 41 = .ok (.getfield 9, 3) := by decide +kernel
theorem dX10_sumOf_44 : decode cX10_sumOf 44 = .ok (.iconst 4, 1) := by decide +kernel
theorem dX10_sumOf_45 : decode cX10_sumOf 45 = .ok (.iaload, 1) := by decide +kernel
theorem dX10_sumOf_46 : decode cX10_sumOf 46 = .ok (.isub, 1) := by decide +kernel
theorem dX10_sumOf_47 : decode cX10_sumOf 47 = .ok (.i2l, 1) := by decide +kernel
theorem dX10_sumOf_48 : decode cX10_sumOf 48 = .ok (.lastore, 1) := by decide +kernel
theorem dX10_sumOf_49 : decode cX10_sumOf 49 = .ok (.aload_n 0, 1) := by decide +kernel
theorem dX10_sumOf_50 : decode cX10_sumOf 50 = .ok (.getfield 87, 3) := by decide +kernel
theorem dX10_sumOf_53 : decode cX10_sumOf 53 = .ok (.iconst 4, 1) := by decide +kernel
theorem dX10_sumOf_54 : decode cX10_sumOf 54 = .ok (.aload_n 0, 1) := by decide +kernel
theorem dX10_sumOf_55 : decode cX10_sumOf 55 = .ok (.iload_n 2, 1) := by decide +kernel
theorem dX10_sumOf_56 : decode cX10_sumOf 56 = .ok (.invokevirtual 338, 3) := by decide +kernel
theorem dX10_sumOf_59 : decode cX10_sumOf 59 = .ok (.i2l, 1) := by decide +kernel
theorem dX10_sumOf_60 : decode cX10_sumOf 60 = .ok (.lastore, 1) := by decide +kernel
theorem dX10_sumOf_61 : decode cX10_sumOf 61 = .ok (.aload_n 0, 1) := by decide +kernel
theorem dX10_sumOf_62 : decode cX10_sumOf 62 = .ok (.getfield 87, 3) := by decide +kernel
theorem dX10_sumOf_65 : decode cX10_sumOf 65 = .ok (.iconst 5, 1) := by decide +kernel
theorem dX10_sumOf_66 : decode cX10_sumOf 66 = .ok (.aload_n 0, 1) := by decide +kernel
theorem dX10_sumOf_67 : decode cX10_sumOf 67 = .ok (.iload_n 2, 1) := by decide +kernel
theorem dX10_sumOf_68 : decode cX10_sumOf 68 = .ok (.invokevirtual 344, 3) := by decide +kernel
theorem dX10_sumOf_71 : decode cX10_sumOf 71 = .ok (.ifCond .eq 7, 3) := by decide +kernel
theorem dX10_sumOf_74 : decode cX10_sumOf 74 = .ok (.lconst 1, 1) := by decide +kernel
theorem dX10_sumOf_75 : decode cX10_sumOf 75 = .ok (.goto 4, 3) := by decide +kernel
theorem dX10_sumOf_78 : decode cX10_sumOf 78 = .ok (.lconst 0, 1) := by decide +kernel
theorem dX10_sumOf_79 : decode cX10_sumOf 79 = .ok (.lastore, 1) := by decide +kernel
theorem dX10_sumOf_80 : decode cX10_sumOf 80 = .ok (.aload_n 0, 1) := by decide +kernel
theorem dX10_sumOf_81 : decode cX10_sumOf 81 = .ok (.getfield 87, 3) := by decide +kernel
theorem dX10_sumOf_84 : decode cX10_sumOf 84 = .ok (.bipush 6, 2) := by decide +kernel
theorem dX10_sumOf_86 : decode cX10_sumOf 86 = .ok (.aload_n 0, 1) := by decide +kernel
theorem dX10_sumOf_87 : decode cX10_sumOf 87 = .ok (.iload_n 2, 1) := by decide +kernel
theorem dX10_sumOf_88 : decode cX10_sumOf 88 = .ok (.invokevirtual 364, 3) := by decide +kernel
theorem dX10_sumOf_91 : decode cX10_sumOf 91 = .ok (.i2l, 1) := by decide +kernel
theorem dX10_sumOf_92 : decode cX10_sumOf 92 = .ok (.lastore, 1) := by decide +kernel
theorem dX10_sumOf_93 : decode cX10_sumOf 93 = .ok (.aload_n 0, 1) := by decide +kernel
theorem dX10_sumOf_94 : decode cX10_sumOf 94 = .ok (.getfield 87, 3) := by decide +kernel
theorem dX10_sumOf_97 : decode cX10_sumOf 97 = .ok (.bipush 7, 2) := by decide +kernel
theorem dX10_sumOf_99 : decode cX10_sumOf 99 = .ok (.aload_n 0, 1) := by decide +kernel
theorem dX10_sumOf_100 : decode cX10_sumOf 100 = .ok (.invokevirtual 356, 3) := by decide +kernel
theorem dX10_sumOf_103 : decode cX10_sumOf 103 = .ok (.invokestatic 358, 3) := by decide +kernel
theorem dX10_sumOf_106 : decode cX10_sumOf 106 = .ok (.i2l, 1) := by decide +kernel
theorem dX10_sumOf_107 : decode cX10_sumOf 107 = .ok (.lastore, 1) := by decide +kernel
theorem dX10_sumOf_108 : decode cX10_sumOf 108 = .ok (.aload_n 0, 1) := by decide +kernel
theorem dX10_sumOf_109 : decode cX10_sumOf 109 = .ok (.getfield 87, 3) := by decide +kernel
theorem dX10_sumOf_112 : decode cX10_sumOf 112 = .ok (.bipush 8, 2) := by decide +kernel
theorem dX10_sumOf_114 : decode cX10_sumOf 114 = .ok (.aload_n 0, 1) := by decide +kernel
theorem dX10_sumOf_115 : decode cX10_sumOf 115 = .ok (.iload_n 2, 1) := by decide +kernel
theorem dX10_sumOf_116 : decode cX10_sumOf 116 = .ok (.invokevirtual 347, 3) := by decide +kernel
theorem dX10_sumOf_119 : decode cX10_sumOf 119 = .ok (.i2l, 1) := by decide +kernel
theorem dX10_sumOf_120 : decode cX10_sumOf 120 = .ok (.lastore, 1) := by decide +kernel
theorem dX10_sumOf_121 : decode cX10_sumOf 121 = .ok (.aload_n 0, 1) := by decide +kernel
theorem dX10_sumOf_122 : decode cX10_sumOf 122 = .ok (.getfield 87, 3) := by decide +kernel
theorem dX10_sumOf_125 : decode cX10_sumOf 125 = .ok (.bipush 9, 2) := by decide +kernel
theorem dX10_sumOf_127 : decode cX10_sumOf 127 = .ok (.aload_n 0, 1) := by decide +kernel
theorem dX10_sumOf_128 : decode cX10_sumOf 128 = .ok (.invokevirtual 367, 3) := by decide +kernel
theorem dX10_sumOf_131 : decode cX10_sumOf 131 = .ok (.i2l, 1) := by decide +kernel
theorem dX10_sumOf_132 : decode cX10_sumOf 132 = .ok (.lastore, 1) := by decide +kernel
theorem dX10_sumOf_133 : decode cX10_sumOf 133 = .ok (.aload_n 0, 1) := by decide +kernel
theorem dX10_sumOf_134 : decode cX10_sumOf 134 = .ok (.getfield 87, 3) := by decide +kernel
theorem dX10_sumOf_137 : decode cX10_sumOf 137 = .ok (.bipush 10, 2) := by decide +kernel
theorem dX10_sumOf_139 : decode cX10_sumOf 139 = .ok (.aload_n 0, 1) := by decide +kernel
theorem dX10_sumOf_140 : decode cX10_sumOf 140 = .ok (.getfield 9, 3) := by decide +kernel
theorem dX10_sumOf_143 : decode cX10_sumOf 143 = .ok (.iconst 4, 1) := by decide +kernel
theorem dX10_sumOf_144 : decode cX10_sumOf 144 = .ok (.iaload, 1) := by decide +kernel
theorem dX10_sumOf_145 : decode cX10_sumOf 145 = .ok (.i2l, 1) := by decide +kernel
theorem dX10_sumOf_146 : decode cX10_sumOf 146 = .ok (.lastore, 1) := by decide +kernel
theorem dX10_sumOf_147 : decode cX10_sumOf 147 = .ok (.aload_n 0, 1) := by decide +kernel
theorem dX10_sumOf_148 : decode cX10_sumOf 148 = .ok (.invokevirtual 370, 3) := by decide +kernel
theorem dX10_sumOf_151 : decode cX10_sumOf 151 = .ok (.lreturn, 1) := by decide +kernel
theorem dX10_likes_0 : decode cX10_likes 0 = .ok (.aload_n 0, 1) := by decide +kernel
theorem dX10_likes_1 : decode cX10_likes 1 = .ok (.getfield 9, 3) := by decide +kernel
theorem dX10_likes_4 : decode cX10_likes 4 = .ok (.bipush 8, 2) := by decide +kernel
theorem dX10_likes_6 : decode cX10_likes 6 = .ok (.iaload, 1) := by decide +kernel
theorem dX10_likes_7 : decode cX10_likes 7 = .ok (.iconst (-1), 1) := by decide +kernel
theorem dX10_likes_8 : decode cX10_likes 8 = .ok (.if_icmp .eq 10, 3) := by decide +kernel
theorem dX10_likes_11 : decode cX10_likes 11 = .ok (.aload_n 0, 1) := by decide +kernel
theorem dX10_likes_12 : decode cX10_likes 12 = .ok (.iload_n 1, 1) := by decide +kernel
theorem dX10_likes_13 : decode cX10_likes 13 = .ok (.iload_n 2, 1) := by decide +kernel
theorem dX10_likes_14 : decode cX10_likes 14 = .ok (.invokevirtual 374, 3) := by decide +kernel
theorem dX10_likes_17 : decode cX10_likes 17 = .ok (.lreturn, 1) := by decide +kernel
theorem dX10_likes_18 : decode cX10_likes 18 = .ok (.aload_n 0, 1) := by decide +kernel
theorem dX10_likes_19 : decode cX10_likes 19 = .ok (.iload_n 2, 1) := by decide +kernel
theorem dX10_likes_20 : decode cX10_likes 20 = .ok (.invokevirtual 344, 3) := by decide +kernel
theorem dX10_likes_23 : decode cX10_likes 23 = .ok (.ifCond .eq 7, 3) := by decide +kernel
theorem dX10_likes_26 : decode cX10_likes 26 = .ok (.lconst 1, 1) := by decide +kernel
theorem dX10_likes_27 : decode cX10_likes 27 = .ok (.goto 4, 3) := by decide +kernel
theorem dX10_likes_30 : decode cX10_likes 30 = .ok (.lconst 0, 1) := by decide +kernel
theorem dX10_likes_31 : decode cX10_likes 31 = .ok (.lreturn, 1) := by decide +kernel
theorem dX10_choice_0 : decode cX10_choice 0 = .ok (.iload_n 1, 1) := by decide +kernel
theorem dX10_choice_1 : decode cX10_choice 1 = .ok (.aload_n 0, 1) := by decide +kernel
theorem dX10_choice_2 : decode cX10_choice 2 = .ok (.getfield 97, 3) := by decide +kernel
theorem dX10_choice_5 : decode cX10_choice 5 = .ok (.if_icmp .ne 8, 3) := by decide +kernel
theorem dX10_choice_8 : decode cX10_choice 8 = .ok (.aload_n 0, 1) := by decide +kernel
theorem dX10_choice_9 : decode cX10_choice 9 = .ok (.getfield 378, 3) := by decide +kernel
theorem dX10_choice_12 : decode cX10_choice 12 = .ok (.ireturn, 1) := by decide +kernel
theorem dX10_choice_13 : decode cX10_choice 13 = .ok (.iconst (-1), 1) := by decide +kernel
theorem dX10_choice_14 : decode cX10_choice 14 = .ok (.istore_n 2, 1) := by decide +kernel
theorem dX10_choice_15 : decode cX10_choice 15 = .ok (.lconst 0, 1) := by decide +kernel
theorem dX10_choice_16 : decode cX10_choice 16 = .ok (.lstore_n 3, 1) := by decide +kernel
theorem dX10_choice_17 : decode cX10_choice 17 = .ok (.iconst 0, 1) := by decide +kernel
theorem dX10_choice_18 : decode cX10_choice 18 = .ok (.istore 5, 2) := by decide +kernel
theorem dX10_choice_20 : decode cX10_choice 20 = .ok (.iload 5, 2) := by decide +kernel
theorem dX10_choice_22 : decode cX10_choice 22 = .ok (.aload_n 0, 1) := by decide +kernel
theorem dX10_choice_23 : decode cX10_choice 23 = .ok (.getfield 9, 3) := by decide +kernel
theorem dX10_choice_26 : decode cX10_choice 26 = .ok (.iconst 2, 1) := by decide +kernel
theorem dX10_choice_27 : decode cX10_choice 27 = .ok (.iaload, 1) := by decide +kernel
theorem dX10_choice_28 : decode cX10_choice 28 = .ok (.if_icmp .ge 45, 3) := by decide +kernel
theorem dX10_choice_31 : decode cX10_choice 31 = .ok (.aload_n 0, 1) := by decide +kernel
theorem dX10_choice_32 : decode cX10_choice 32 = .ok (.getfield 25, 3) := by decide +kernel
theorem dX10_choice_35 : decode cX10_choice 35 = .ok (.iload_n 1, 1) := by decide +kernel
theorem dX10_choice_36 : decode cX10_choice 36 = .ok (.iaload, 1) := by decide +kernel
theorem dX10_choice_37 : decode cX10_choice 37 = .ok (.iload 5, 2) := by decide +kernel
theorem dX10_choice_39 : decode cX10_choice 39 = .ok (.invokestatic 353, 3) := by decide +kernel
theorem dX10_choice_42 : decode cX10_choice 42 = .ok (.ifCond .eq 25, 3) := by decide +kernel
theorem dX10_choice_45 : decode cX10_choice 45 = .ok (.aload_n 0, 1) := by decide +kernel
theorem dX10_choice_46 : decode cX10_choice 46 = .ok (.iload_n 1, 1) := by decide +kernel
theorem dX10_choice_47 : decode cX10_choice 47 = .ok (.iload 5, 2) := by decide +kernel
theorem dX10_choice_49 : decode cX10_choice 49 = .ok (.invokevirtual 381, 3) := by decide +kernel
theorem dX10_choice_52 : decode cX10_choice 52 = .ok (.lstore 6, 2) := by decide +kernel
theorem dX10_choice_54 : decode cX10_choice 54 = .ok (.lload 6, 2) := by decide +kernel
theorem dX10_choice_56 : decode cX10_choice 56 = .ok (.lload_n 3, 1) := by decide +kernel
