theorem dX4_init_0 : decode cX4_init 0 = .ok (.aload_n 0, 1) := by decide +kernel
theorem dX4_init_1 : decode cX4_init 1 = .ok (.invokespecial 3, 3) := by decide +kernel
theorem dX4_init_4 : decode cX4_init 4 = .ok (.aload_n 0, 1) := by decide +kernel
theorem dX4_init_5 : decode cX4_init 5 = .ok (.bipush 8, 2) := by decide +kernel
theorem dX4_init_7 : decode cX4_init 7 = .ok (.newarray .long, 2) := by decide +kernel
theorem dX4_init_9 : decode cX4_init 9 = .ok (.putfield 9, 3) := by decide +kernel
theorem dX4_init_12 : decode cX4_init 12 = .ok (.aload_n 0, 1) := by decide +kernel
theorem dX4_init_13 : decode cX4_init 13 = .ok (.aload_n 1, 1) := by decide +kernel
theorem dX4_init_14 : decode cX4_init 14 = .ok (.putfield 13, 3) := by decide +kernel
theorem dX4_init_17 : decode cX4_init 17 = .ok (.aload_n 0, 1) := by decide +kernel
theorem dX4_init_18 : decode cX4_init 18 = .ok (.iload_n 2, 1) := by decide +kernel
theorem dX4_init_19 : decode cX4_init 19 = .ok (.sipush 1288, 3) := by decide +kernel
theorem dX4_init_22 : decode cX4_init 22 = .ok (.iand, 1) := by decide +kernel
theorem dX4_init_23 : decode cX4_init 23 = .ok (.ifCond .eq 7, 3) := by decide +kernel
theorem dX4_init_26 : decode cX4_init 26 = .ok (.iconst 1, 1) := by decide +kernel
theorem dX4_init_27 : decode cX4_init 27 = .ok (.goto 4, 3) := by decide +kernel
theorem dX4_init_30 : decode cX4_init 30 = .ok (.iconst 0, 1) := by decide +kernel
theorem dX4_init_31 : decode cX4_init 31 = .ok (.putfield 17, 3) := by decide +kernel
theorem dX4_init_34 : decode cX4_init 34 = .ok (.aload_n 0, 1) := by decide +kernel
theorem dX4_init_35 : decode cX4_init 35 = .ok (.iload_n 2, 1) := by decide +kernel
theorem dX4_init_36 : decode cX4_init 36 = .ok (.bipush 16, 2) := by decide +kernel
theorem dX4_init_38 : decode cX4_init 38 = .ok (.iand, 1) := by decide +kernel
theorem dX4_init_39 : decode cX4_init 39 = .ok (.ifCond .eq 7, 3) := by decide +kernel
theorem dX4_init_42 : decode cX4_init 42 = .ok (.iconst 1, 1) := by decide +kernel
theorem dX4_init_43 : decode cX4_init 43 = .ok (.goto 4, 3) := by decide +kernel
theorem dX4_init_46 : decode cX4_init 46 = .ok (.iconst 0, 1) := by decide +kernel
theorem dX4_init_47 : decode cX4_init 47 = .ok (.putfield 21, 3) := by decide +kernel
theorem dX4_init_50 : decode cX4_init 50 = .ok (.aload_n 0, 1) := by decide +kernel
theorem dX4_init_51 : decode cX4_init 51 = .ok (.iload_n 2, 1) := by decide +kernel
theorem dX4_init_52 : decode cX4_init 52 = .ok (.bipush 64, 2) := by decide +kernel
theorem dX4_init_54 : decode cX4_init 54 = .ok (.iand, 1) := by decide +kernel
theorem dX4_init_55 : decode cX4_init 55 = .ok (.ifCond .eq 7, 3) := by decide +kernel
theorem dX4_init_58 : decode cX4_init 58 = .ok (.iconst 1, 1) := by decide +kernel
theorem dX4_init_59 : decode cX4_init 59 = .ok (.goto 4, 3) := by decide +kernel
theorem dX4_init_62 : decode cX4_init 62 = .ok (.iconst 0, 1) := by decide +kernel
theorem dX4_init_63 : decode cX4_init 63 = .ok (.putfield 24, 3) := by decide +kernel
theorem dX4_init_66 : decode cX4_init 66 = .ok (.return_, 1) := by decide +kernel
theorem dX4_worth_0 : decode cX4_worth 0 = .ok (.aload_n 0, 1) := by decide +kernel
theorem dX4_worth_1 : decode cX4_worth 1 = .ok (.getfield 13, 3) := by decide +kernel
theorem dX4_worth_4 : decode cX4_worth 4 = .ok (.astore_n 2, 1) := by decide +kernel
theorem dX4_worth_5 : decode cX4_worth 5 = .ok (.aload_n 0, 1) := by decide +kernel
theorem dX4_worth_6 : decode cX4_worth 6 = .ok (.getfield 9, 3) := by decide +kernel
theorem dX4_worth_9 : decode cX4_worth 9 = .ok (.astore_n 3, 1) := by decide +kernel
theorem dX4_worth_10 : decode cX4_worth 10 = .ok (.iconst (-1), 1) := by decide +kernel
theorem dX4_worth_11 : decode cX4_worth 11 = .ok (.istore 4, 2) := by decide +kernel
theorem dX4_worth_13 : decode cX4_worth 13 = .ok (.iconst 0, 1) := by decide +kernel
theorem dX4_worth_14 : decode cX4_worth 14 = .ok (.istore 5, 2) := by decide +kernel
theorem dX4_worth_16 : decode cX4_worth 16 = .ok (.iload 5, 2) := by decide +kernel
theorem dX4_worth_18 : decode cX4_worth 18 = .ok (.aload_n 2, 1) := by decide +kernel
theorem dX4_worth_19 : decode cX4_worth 19 = .ok (.arraylength, 1) := by decide +kernel
theorem dX4_worth_20 : decode cX4_worth 20 = .ok (.if_icmp .ge 226, 3) := by decide +kernel
theorem dX4_worth_23 : decode cX4_worth 23 = .ok (.aload_n 2, 1) := by decide +kernel
theorem dX4_worth_24 : decode cX4_worth 24 = .ok (.iload 5, 2) := by decide +kernel
theorem dX4_worth_26 : decode cX4_worth 26 = .ok (.iaload, 1) := by decide +kernel
theorem dX4_worth_27 : decode cX4_worth 27 = .ok (.bipush 20, 2) := by decide +kernel
theorem dX4_worth_29 : decode cX4_worth 29 = .ok (.ishr, 1) := by decide +kernel
theorem dX4_worth_30 : decode cX4_worth 30 = .ok (.istore 6, 2) := by decide +kernel
theorem dX4_worth_32 : decode cX4_worth 32 = .ok (.aload_n 2, 1) := by decide +kernel
theorem dX4_worth_33 : decode cX4_worth 33 = .ok (.iload 5, 2) := by decide +kernel
theorem dX4_worth_35 : decode cX4_worth 35 = .ok (.iaload, 1) := by decide +kernel
theorem dX4_worth_36 : decode cX4_worth 36 = .ok (.ldc 27, 2) := by decide +kernel
theorem dX4_worth_38 : decode cX4_worth 38 = .ok (.iand, 1) := by decide +kernel
theorem dX4_worth_39 : decode cX4_worth 39 = .ok (.istore 7, 2) := by decide +kernel
theorem dX4_worth_41 : decode cX4_worth 41 = .ok (.aload_n 0, 1) := by decide +kernel
theorem dX4_worth_42 : decode cX4_worth 42 = .ok (.iload 6, 2) := by decide +kernel
theorem dX4_worth_44 : decode cX4_worth 44 = .ok (.iload 7, 2) := by decide +kernel
theorem dX4_worth_46 : decode cX4_worth 46 = .ok (.iload 4, 2) := by decide +kernel
theorem dX4_worth_48 : decode cX4_worth 48 = .ok (.invokevirtual 28, 3) := by decide +kernel
theorem dX4_worth_51 : decode cX4_worth 51 = .ok (.ifCond .ne 5, 3) := by decide +kernel
theorem dX4_worth_54 : decode cX4_worth 54 = .ok (.lconst 0, 1) := by decide +kernel
theorem dX4_worth_55 : decode cX4_worth 55 = .ok (.lreturn, 1) := by decide +kernel
theorem dX4_worth_56 : decode cX4_worth 56 = .ok (.iload 6, 2) := by decide +kernel
theorem dX4_worth_58 : decode cX4_worth 58 = .ok (.tableswitch 160 0 6 #[42, 55, 70, 83, 108, 133, 155], 42) := by decide +kernel
theorem dX4_worth_100 : decode cX4_worth 100 = .ok (.iinc 4 1, 3) := by decide +kernel
theorem dX4_worth_103 : decode cX4_worth 103 = .ok (.aload_n 3, 1) := by decide +kernel
theorem dX4_worth_104 : decode cX4_worth 104 = .ok (.iload 4, 2) := by decide +kernel
theorem dX4_worth_106 : decode cX4_worth 106 = .ok (.iload 7, 2) := by decide +kernel
theorem dX4_worth_108 : decode cX4_worth 108 = .ok (.i2l, 1) := by decide +kernel
theorem dX4_worth_109 : decode cX4_worth 109 = .ok (.lastore, 1) := by decide +kernel
theorem dX4_worth_110 : decode cX4_worth 110 = .ok (.goto 130, 3) := by decide +kernel
theorem dX4_worth_113 : decode cX4_worth 113 = .ok (.iinc 4 1, 3) := by decide +kernel
theorem dX4_worth_116 : decode cX4_worth 116 = .ok (.aload_n 3, 1) := by decide +kernel
theorem dX4_worth_117 : decode cX4_worth 117 = .ok (.iload 4, 2) := by decide +kernel
theorem dX4_worth_119 : decode cX4_worth 119 = .ok (.aload_n 1, 1) := by decide +kernel
theorem dX4_worth_120 : decode cX4_worth 120 = .ok (.iload 7, 2) := by decide +kernel
theorem dX4_worth_122 : decode cX4_worth 122 = .ok (.iaload, 1) := by decide +kernel
theorem dX4_worth_123 : decode cX4_worth 123 = .ok (.i2l, 1) := by decide +kernel
theorem dX4_worth_124 : decode cX4_worth 124 = .ok (.lastore, 1) := by decide +kernel
theorem dX4_worth_125 : decode cX4_worth 125 = .ok (.goto 115, 3) := by decide +kernel
theorem dX4_worth_128 : decode cX4_worth 128 = .ok (.aload_n 3, 1) := by decide +kernel
theorem dX4_worth_129 : decode cX4_worth 129 = .ok (.iload 4, 2) := by decide +kernel
theorem dX4_worth_131 : decode cX4_worth 131 = .ok (.lconst 1, 1) := by decide +kernel
theorem dX4_worth_132 : decode cX4_worth 132 = .ok (.aload_n 3, 1) := by decide +kernel
theorem dX4_worth_133 : decode cX4_worth 133 = .ok (.iload 4, 2) := by decide +kernel
theorem dX4_worth_135 : decode cX4_worth 135 = .ok (.laload, 1) := by decide +kernel
theorem dX4_worth_136 : decode cX4_worth 136 = .ok (.lsub, 1) := by decide +kernel
theorem dX4_worth_137 : decode cX4_worth 137 = .ok (.lastore, 1) := by decide +kernel
theorem dX4_worth_138 : decode cX4_worth 138 = .ok (.goto 102, 3) := by decide +kernel
theorem dX4_worth_141 : decode cX4_worth 141 = .ok (.aload_n 3, 1) := by decide +kernel
theorem dX4_worth_142 : decode cX4_worth 142 = .ok (.iload 4, 2) := by decide +kernel
theorem dX4_worth_144 : decode cX4_worth 144 = .ok (.laload, 1) := by decide +kernel
theorem dX4_worth_145 : decode cX4_worth 145 = .ok (.lconst 0, 1) := by decide +kernel
theorem dX4_worth_146 : decode cX4_worth 146 = .ok (.lcmp, 1) := by decide +kernel
theorem dX4_worth_147 : decode cX4_worth 147 = .ok (.ifCond .ne 13, 3) := by decide +kernel
theorem dX4_worth_150 : decode cX4_worth 150 = .ok (.iload 5, 2) := by decide +kernel
theorem dX4_worth_152 : decode cX4_worth 152 = .ok (.iload 7, 2) := by decide +kernel
theorem dX4_worth_154 : decode cX4_worth 154 = .ok (.iadd, 1) := by decide +kernel
theorem dX4_worth_155 : decode cX4_worth 155 = .ok (.istore 5, 2) := by decide +kernel
theorem dX4_worth_157 : decode cX4_worth 157 = .ok (.goto 83, 3) := by decide +kernel
theorem dX4_worth_160 : decode cX4_worth 160 = .ok (.iinc 4 (-1), 3) := by decide +kernel
theorem dX4_worth_163 : decode cX4_worth 163 = .ok (.goto 77, 3) := by decide +kernel
theorem dX4_worth_166 : decode cX4_worth 166 = .ok (.aload_n 3, 1) := by decide +kernel
theorem dX4_worth_167 : decode cX4_worth 167 = .ok (.iload 4, 2) := by decide +kernel
theorem dX4_worth_169 : decode cX4_worth 169 = .ok (.laload, 1) := by decide +kernel
theorem dX4_worth_170 : decode cX4_worth 170 = .ok (.lconst 0, 1) := by decide +kernel
theorem dX4_worth_171 : decode cX4_worth 171 = .ok (.lcmp, 1) := by decide +kernel
theorem dX4_worth_172 : decode cX4_worth 172 = .ok (.ifCond .eq 13, 3) := by decide +kernel
theorem dX4_worth_175 : decode cX4_worth 175 = .ok (.iload 5, 2) := by decide +kernel
theorem dX4_worth_177 : decode cX4_worth 177 = .ok (.iload 7, 2) := by decide +kernel
theorem dX4_worth_179 : decode cX4_worth 179 = .ok (.iadd, 1) := by decide +kernel
theorem dX4_worth_180 : decode cX4_worth 180 = .ok (.istore 5, 2) := by decide +kernel
theorem dX4_worth_182 : decode cX4_worth 182 = .ok (.goto 58, 3) := by decide +kernel
theorem dX4_worth_185 : decode cX4_worth 185 = .ok (.iinc 4 (-1), 3) := by decide +kernel
theorem dX4_worth_188 : decode cX4_worth 188 = .ok (.goto 52, 3) := by decide +kernel
theorem dX4_worth_191 : decode cX4_worth 191 = .ok (.aload_n 3, 1) := by decide +kernel
theorem dX4_worth_192 : decode cX4_worth 192 = .ok (.iload 4, 2) := by decide +kernel
theorem dX4_worth_194 : decode cX4_worth 194 = .ok (.laload, 1) := by decide +kernel
theorem dX4_worth_195 : decode cX4_worth 195 = .ok (.lconst 0, 1) := by decide +kernel
theorem dX4_worth_196 : decode cX4_worth 196 = .ok (.lcmp, 1) := by decide +kernel
theorem dX4_worth_197 : decode cX4_worth 197 = .ok (.ifCond .ne 10, 3) := by decide +kernel
theorem dX4_worth_200 : decode cX4_worth 200 = .ok (.iload 5, 2) := by decide +kernel
theorem dX4_worth_202 : decode cX4_worth 202 = .ok (.iload 7, 2) := by decide +kernel
theorem dX4_worth_204 : decode cX4_worth 204 = .ok (.iadd, 1) := by decide +kernel
theorem dX4_worth_205 : decode cX4_worth 205 = .ok (.istore 5, 2) := by decide +kernel
theorem dX4_worth_207 : decode cX4_worth 207 = .ok (.iinc 4 (-1), 3) := by decide +kernel
theorem dX4_worth_210 : decode cX4_worth 210 = .ok (.goto 30, 3) := by decide +kernel
theorem dX4_worth_213 : decode cX4_worth 213 = .ok (.aload_n 3, 1) := by decide +kernel
theorem dX4_worth_214 : decode cX4_worth 214 = .ok (.iload 4, 2) := by decide +kernel
theorem dX4_worth_216 : decode cX4_worth 216 = .ok (.laload, 1) := by decide +kernel
theorem dX4_worth_217 : decode cX4_worth 217 = .ok (.lreturn, 1) := by decide +kernel
theorem dX4_worth_218 : decode cX4_worth 218 = .ok (.iinc 4 (-1), 3) := by decide +kernel
theorem dX4_worth_221 : decode cX4_worth 221 = .ok (.aload_n 3, 1) := by decide +kernel
theorem dX4_worth_222 : decode cX4_worth 222 = .ok (.iload 4, 2) := by decide +kernel
theorem dX4_worth_224 : decode cX4_worth 224 = .ok (.iload 6, 2) := by decide +kernel
theorem dX4_worth_226 : decode cX4_worth 226 = .ok (.aload_n 3, 1) := by decide +kernel
theorem dX4_worth_227 : decode cX4_worth 227 = .ok (.iload 4, 2) := by decide +kernel
theorem dX4_worth_229 : decode cX4_worth 229 = .ok (.laload, 1) := by decide +kernel
theorem dX4_worth_230 : decode cX4_worth 230 = .ok (.aload_n 3, 1) := by decide +kernel
theorem dX4_worth_231 : decode cX4_worth 231 = .ok (.iload 4, 2) := by decide +kernel
theorem dX4_worth_233 : decode cX4_worth 233 = .ok (.iconst 1, 1) := by decide +kernel
theorem dX4_worth_234 : decode cX4_worth 234 = .ok (.iadd, 1) := by decide +kernel
theorem dX4_worth_235 : decode cX4_worth 235 = .ok (.laload, 1) := by decide +kernel
theorem dX4_worth_236 : decode cX4_worth 236 = .ok (.invokestatic 32, 3) := by decide +kernel
theorem dX4_worth_239 : decode cX4_worth 239 = .ok (.lastore, 1) := by decide +kernel
theorem dX4_worth_240 : decode cX4_worth 240 = .ok (.iinc 5 1, 3) := by decide +kernel
theorem dX4_worth_243 : decode cX4_worth 243 = .ok (.goto (-227), 3) := by decide +kernel
theorem dX4_worth_246 : decode cX4_worth 246 = .ok (.lconst 0, 1) := by decide +kernel
theorem dX4_worth_247 : decode cX4_worth 247 = .ok (.lreturn, 1) := by decide +kernel
theorem dX4_fits_0 : decode cX4_fits 0 = .ok (.iload_n 1, 1) := by decide +kernel
theorem dX4_fits_1 : decode cX4_fits 1 = .ok (.iconst 1, 1) := by decide +kernel
theorem dX4_fits_2 : decode cX4_fits 2 = .ok (.if_icmp .gt 30, 3) := by decide +kernel
theorem dX4_fits_5 : decode cX4_fits 5 = .ok (.iload_n 3, 1) := by decide +kernel
theorem dX4_fits_6 : decode cX4_fits 6 = .ok (.aload_n 0, 1) := by decide +kernel
theorem dX4_fits_7 : decode cX4_fits 7 = .ok (.getfield 9, 3) := by decide +kernel
theorem dX4_fits_10 : decode cX4_fits 10 = .ok (.arraylength, 1) := by decide +kernel
theorem dX4_fits_11 : decode cX4_fits 11 = .ok (.iconst 1, 1) := by decide +kernel
theorem dX4_fits_12 : decode cX4_fits 12 = .ok (.isub, 1) := by decide +kernel
theorem dX4_fits_13 : decode cX4_fits 13 = .ok (.if_icmp .ge 17, 3) := by decide +kernel
theorem dX4_fits_16 : decode cX4_fits 16 = .ok (.iload_n 1, 1) := by decide +kernel
theorem dX4_fits_17 : decode cX4_fits 17 = .ok (.ifCond .eq 9, 3) := by decide +kernel
theorem dX4_fits_20 : decode cX4_fits 20 = .ok (.iload_n 2, 1) := by decide +kernel
theorem dX4_fits_21 : decode cX4_fits 21 = .ok (.bipush 11, 2) := by decide +kernel
theorem dX4_fits_23 : decode cX4_fits 23 = .ok (.if_icmp .ge 7, 3) := by decide +kernel
theorem dX4_fits_26 : decode cX4_fits 26 = .ok (.iconst 1, 1) := by decide +kernel
theorem dX4_fits_27 : decode cX4_fits 27 = .ok (.goto 4, 3) := by decide +kernel
theorem dX4_fits_30 : decode cX4_fits 30 = .ok (.iconst 0, 1) := by decide +kernel
theorem dX4_fits_31 : decode cX4_fits 31 = .ok (.ireturn, 1) := by decide +kernel
theorem dX4_fits_32 : decode cX4_fits 32 = .ok (.iload_n 3, 1) := by decide +kernel
theorem dX4_fits_33 : decode cX4_fits 33 = .ok (.iload_n 1, 1) := by decide +kernel
theorem dX4_fits_34 : decode cX4_fits 34 = .ok (.bipush 7, 2) := by decide +kernel
theorem dX4_fits_36 : decode cX4_fits 36 = .ok (.if_icmp .lt 7, 3) := by decide +kernel
theorem dX4_fits_39 : decode cX4_fits 39 = .ok (.iconst 1, 1) := by decide +kernel
theorem dX4_fits_40 : decode cX4_fits 40 = .ok (.goto 4, 3) := by decide +kernel
theorem dX4_fits_43 : decode cX4_fits 43 = .ok (.iconst 0, 1) := by decide +kernel
theorem dX4_fits_44 : decode cX4_fits 44 = .ok (.if_icmp .lt 7, 3) := by decide +kernel
theorem dX4_fits_47 : decode cX4_fits 47 = .ok (.iconst 1, 1) := by decide +kernel
theorem dX4_fits_48 : decode cX4_fits 48 = .ok (.goto 4, 3) := by decide +kernel
theorem dX4_fits_51 : decode cX4_fits 51 = .ok (.iconst 0, 1) := by decide +kernel
theorem dX4_fits_52 : decode cX4_fits 52 = .ok (.ireturn, 1) := by decide +kernel
theorem dX4_joined_0 : decode cX4_joined 0 = .ok (.iload_n 0, 1) := by decide +kernel
theorem dX4_joined_1 : decode cX4_joined 1 = .ok (.tableswitch 139 7 15 #[51, 55, 59, 63, 77, 91, 103, 115, 127], 51) := by decide +kernel
theorem dX4_joined_52 : decode cX4_joined 52 = .ok (.lload_n 1, 1) := by decide +kernel
theorem dX4_joined_53 : decode cX4_joined 53 = .ok (.lload_n 3, 1) := by decide +kernel
theorem dX4_joined_54 : decode cX4_joined 54 = .ok (.ladd, 1) := by decide +kernel
theorem dX4_joined_55 : decode cX4_joined 55 = .ok (.lreturn, 1) := by decide +kernel
theorem dX4_joined_56 : decode cX4_joined 56 = .ok (.lload_n 1, 1) := by decide +kernel
theorem dX4_joined_57 : decode cX4_joined 57 = .ok (.lload_n 3, 1) := by decide +kernel
theorem dX4_joined_58 : decode cX4_joined 58 = .ok (.lsub, 1) := by decide +kernel
theorem dX4_joined_59 : decode cX4_joined 59 = .ok (.lreturn, 1) := by decide +kernel
theorem dX4_joined_60 : decode cX4_joined 60 = .ok (.lload_n 1, 1) := by decide +kernel
theorem dX4_joined_61 : decode cX4_joined 61 = .ok (.lload_n 3, 1) := by decide +kernel
theorem dX4_joined_62 : decode cX4_joined 62 = .ok (.lmul, 1) := by decide +kernel
theorem dX4_joined_63 : decode cX4_joined 63 = .ok (.lreturn, 1) := by decide +kernel
theorem dX4_joined_64 : decode cX4_joined 64 = .ok (.lload_n 3, 1) := by decide +kernel
theorem dX4_joined_65 : decode cX4_joined 65 = .ok (.lconst 0, 1) := by decide +kernel
theorem dX4_joined_66 : decode cX4_joined 66 = .ok (.lcmp, 1) := by decide +kernel
theorem dX4_joined_67 : decode cX4_joined 67 = .ok (.ifCond .ne 7, 3) := by decide +kernel
theorem dX4_joined_70 : decode cX4_joined 70 = .ok (.lconst 0, 1) := by decide +kernel
theorem dX4_joined_71 : decode cX4_joined 71 = .ok (.goto 6, 3) := by decide +kernel
theorem dX4_joined_74 : decode cX4_joined 74 = .ok (.lload_n 1, 1) := by decide +kernel
theorem dX4_joined_75 : decode cX4_joined 75 = .ok (.lload_n 3, 1) := by decide +kernel
theorem dX4_joined_76 : decode cX4_joined 76 = .ok (.ldiv, 1) := by decide +kernel
theorem dX4_joined_77 : decode cX4_joined 77 = .ok (.lreturn, 1) := by decide +kernel
theorem dX4_joined_78 : decode cX4_joined 78 = .ok (.lload_n 3, 1) := by decide +kernel
theorem dX4_joined_79 : decode cX4_joined 79 = .ok (.lconst 0, 1) := by decide +kernel
theorem dX4_joined_80 : decode cX4_joined 80 = .ok (.lcmp, 1) := by decide +kernel
theorem dX4_joined_81 : decode cX4_joined 81 = .ok (.ifCond .ne 7, 3) := by decide +kernel
theorem dX4_joined_84 : decode cX4_joined 84 = .ok (.lconst 0, 1) := by decide +kernel
theorem dX4_joined_85 : decode cX4_joined 85 = .ok (.goto 6, 3) := by decide +kernel
theorem dX4_joined_88 : decode cX4_joined 88 = .ok (.lload_n 1, 1) := by decide +kernel
theorem dX4_joined_89 : decode cX4_joined 89 = .ok (.lload_n 3, 1) := by decide +kernel
theorem dX4_joined_90 : decode cX4_joined 90 = .ok (.lrem, 1) := by decide +kernel
theorem dX4_joined_91 : decode cX4_joined 91 = .ok (.lreturn, 1) := by decide +kernel
theorem dX4_joined_92 : decode cX4_joined 92 = .ok (.lload_n 1, 1) := by decide +kernel
theorem dX4_joined_93 : decode cX4_joined 93 = .ok (.lload_n 3, 1) := by decide +kernel
theorem dX4_joined_94 : decode cX4_joined 94 = .ok (.lcmp, 1) := by decide +kernel
theorem dX4_joined_95 : decode cX4_joined 95 = .ok (.ifCond .ge 7, 3) := by decide +kernel
theorem dX4_joined_98 : decode cX4_joined 98 = .ok (.lconst 1, 1) := by decide +kernel
theorem dX4_joined_99 : decode cX4_joined 99 = .ok (.goto 4, 3) := by decide +kernel
theorem dX4_joined_102 : decode cX4_joined 102 = .ok (.lconst 0, 1) := by decide +kernel
theorem dX4_joined_103 : decode cX4_joined 103 = .ok (.lreturn, 1) := by decide +kernel
theorem dX4_joined_104 : decode cX4_joined 104 = .ok (.lload_n 1, 1) := by decide +kernel
theorem dX4_joined_105 : decode cX4_joined 105 = .ok (.lload_n 3, 1) := by decide +kernel
theorem dX4_joined_106 : decode cX4_joined 106 = .ok (.lcmp, 1) := by decide +kernel
theorem dX4_joined_107 : decode cX4_joined 107 = .ok (.ifCond .gt 7, 3) := by decide +kernel
theorem dX4_joined_110 : decode cX4_joined 110 = .ok (.lconst 1, 1) := by decide +kernel
theorem dX4_joined_111 : decode cX4_joined 111 = .ok (.goto 4, 3) := by decide +kernel
theorem dX4_joined_114 : decode cX4_joined 114 = .ok (.lconst 0, 1) := by decide +kernel
theorem dX4_joined_115 : decode cX4_joined 115 = .ok (.lreturn, 1) := by decide +kernel
theorem dX4_joined_116 : decode cX4_joined 116 = .ok (.lload_n 1, 1) := by decide +kernel
theorem dX4_joined_117 : decode cX4_joined 117 = .ok (.lload_n 3, 1) := by decide +kernel
theorem dX4_joined_118 : decode cX4_joined 118 = .ok (.lcmp, 1) := by decide +kernel
theorem dX4_joined_119 : decode cX4_joined 119 = .ok (.ifCond .ne 7, 3) := by decide +kernel
theorem dX4_joined_122 : decode cX4_joined 122 = .ok (.lconst 1, 1) := by decide +kernel
theorem dX4_joined_123 : decode cX4_joined 123 = .ok (.goto 4, 3) := by decide +kernel
theorem dX4_joined_126 : decode cX4_joined 126 = .ok (.lconst 0, 1) := by decide +kernel
theorem dX4_joined_127 : decode cX4_joined 127 = .ok (.lreturn, 1) := by decide +kernel
theorem dX4_joined_128 : decode cX4_joined 128 = .ok (.lload_n 1, 1) := by decide +kernel
theorem dX4_joined_129 : decode cX4_joined 129 = .ok (.lload_n 3, 1) := by decide +kernel
theorem dX4_joined_130 : decode cX4_joined 130 = .ok (.lcmp, 1) := by decide +kernel
theorem dX4_joined_131 : decode cX4_joined 131 = .ok (.ifCond .lt 7, 3) := by decide +kernel
theorem dX4_joined_134 : decode cX4_joined 134 = .ok (.lconst 1, 1) := by decide +kernel
theorem dX4_joined_135 : decode cX4_joined 135 = .ok (.goto 4, 3) := by decide +kernel
theorem dX4_joined_138 : decode cX4_joined 138 = .ok (.lconst 0, 1) := by decide +kernel
theorem dX4_joined_139 : decode cX4_joined 139 = .ok (.lreturn, 1) := by decide +kernel
theorem dX4_joined_140 : decode cX4_joined 140 = .ok (.lload_n 1, 1) := by decide +kernel
theorem dX4_joined_141 : decode cX4_joined 141 = .ok (.lload_n 3, 1) := by decide +kernel
theorem dX4_joined_142 : decode cX4_joined 142 = .ok (.lcmp, 1) := by decide +kernel
theorem dX4_joined_143 : decode cX4_joined 143 = .ok (.ifCond .le 7, 3) := by decide +kernel
theorem dX4_joined_146 : decode cX4_joined 146 = .ok (.lconst 1, 1) := by decide +kernel
theorem dX4_joined_147 : decode cX4_joined 147 = .ok (.goto 4, 3) := by decide +kernel
theorem dX4_joined_150 : decode cX4_joined 150 = .ok (.lconst 0, 1) := by decide +kernel
theorem dX4_joined_151 : decode cX4_joined 151 = .ok (.lreturn, 1) := by decide +kernel
theorem dX6_init_0 : decode cX6_init 0 = .ok (.aload_n 0, 1) := by decide +kernel
theorem dX6_init_1 : decode cX6_init 1 = .ok (.invokespecial 3, 3) := by decide +kernel
theorem dX6_init_4 : decode cX6_init 4 = .ok (.aload_n 0, 1) := by decide +kernel
theorem dX6_init_5 : decode cX6_init 5 = .ok (.bipush 8, 2) := by decide +kernel
theorem dX6_init_7 : decode cX6_init 7 = .ok (.newarray .int, 2) := by decide +kernel
theorem dX6_init_9 : decode cX6_init 9 = .ok (.putfield 9, 3) := by decide +kernel
theorem dX6_init_12 : decode cX6_init 12 = .ok (.aload_n 0, 1) := by decide +kernel
theorem dX6_init_13 : decode cX6_init 13 = .ok (.iconst 5, 1) := by decide +kernel
theorem dX6_init_14 : decode cX6_init 14 = .ok (.newarray .int, 2) := by decide +kernel
theorem dX6_init_16 : decode cX6_init 16 = .ok (.putfield 15, 3) := by decide +kernel
theorem dX6_init_19 : decode cX6_init 19 = .ok (.aload_n 0, 1) := by decide +kernel
theorem dX6_init_20 : decode cX6_init 20 = .ok (.iconst 5, 1) := by decide +kernel
theorem dX6_init_21 : decode cX6_init 21 = .ok (.newarray .int, 2) := by decide +kernel
theorem dX6_init_23 : decode cX6_init 23 = .ok (.putfield 18, 3) := by decide +kernel
theorem dX6_init_26 : decode cX6_init 26 = .ok (.aload_n 0, 1) := by decide +kernel
theorem dX6_init_27 : decode cX6_init 27 = .ok (.getfield 9, 3) := by decide +kernel
theorem dX6_init_30 : decode cX6_init 30 = .ok (.ldc 21, 2) := by decide +kernel
theorem dX6_init_32 : decode cX6_init 32 = .ok (.invokestatic 22, 3) := by decide +kernel
theorem dX6_init_35 : decode cX6_init 35 = .ok (.aload_n 0, 1) := by decide +kernel
theorem dX6_init_36 : decode cX6_init 36 = .ok (.getfield 18, 3) := by decide +kernel
theorem dX6_init_39 : decode cX6_init 39 = .ok (.iconst (-1), 1) := by decide +kernel
theorem dX6_init_40 : decode cX6_init 40 = .ok (.invokestatic 22, 3) := by decide +kernel
theorem dX6_init_43 : decode cX6_init 43 = .ok (.return_, 1) := by decide +kernel
theorem dX6_begin_0 : decode cX6_begin 0 = .ok (.aload_n 0, 1) := by decide +kernel
theorem dX6_begin_1 : decode cX6_begin 1 = .ok (.iconst 0, 1) := by decide +kernel
theorem dX6_begin_2 : decode cX6_begin 2 = .ok (.putfield 28, 3) := by decide +kernel
theorem dX6_begin_5 : decode cX6_begin 5 = .ok (.aload_n 0, 1) := by decide +kernel
theorem dX6_begin_6 : decode cX6_begin 6 = .ok (.getfield 9, 3) := by decide +kernel
theorem dX6_begin_9 : decode cX6_begin 9 = .ok (.ldc 21, 2) := by decide +kernel
theorem dX6_begin_11 : decode cX6_begin 11 = .ok (.invokestatic 22, 3) := by decide +kernel
theorem dX6_begin_14 : decode cX6_begin 14 = .ok (.aload_n 0, 1) := by decide +kernel
theorem dX6_begin_15 : decode cX6_begin 15 = .ok (.getfield 18, 3) := by decide +kernel
theorem dX6_begin_18 : decode cX6_begin 18 = .ok (.iconst (-1), 1) := by decide +kernel
theorem dX6_begin_19 : decode cX6_begin 19 = .ok (.invokestatic 22, 3) := by decide +kernel
theorem dX6_begin_22 : decode cX6_begin 22 = .ok (.aload_n 1, 1) := by decide +kernel
theorem dX6_begin_23 : decode cX6_begin 23 = .ok (.getfield 32, 3) := by decide +kernel
theorem dX6_begin_26 : decode cX6_begin 26 = .ok (.iconst 0, 1) := by decide +kernel
theorem dX6_begin_27 : decode cX6_begin 27 = .ok (.aload_n 0, 1) := by decide +kernel
theorem dX6_begin_28 : decode cX6_begin 28 = .ok (.getfield 15, 3) := by decide +kernel
theorem dX6_begin_31 : decode cX6_begin 31 = .ok (.iconst 0, 1) := by decide +kernel
theorem dX6_begin_32 : decode cX6_begin 32 = .ok (.iconst 5, 1) := by decide +kernel
theorem dX6_begin_33 : decode cX6_begin 33 = .ok (.invokestatic 35, 3) := by decide +kernel
theorem dX6_begin_36 : decode cX6_begin 36 = .ok (.return_, 1) := by decide +kernel
theorem dX6_copyFrom_0 : decode cX6_copyFrom 0 = .ok (.aload_n 0, 1) := by decide +kernel
theorem dX6_copyFrom_1 : decode cX6_copyFrom 1 = .ok (.aload_n 1, 1) := by decide +kernel
theorem dX6_copyFrom_2 : decode cX6_copyFrom 2 = .ok (.getfield 28, 3) := by decide +kernel
theorem dX6_copyFrom_5 : decode cX6_copyFrom 5 = .ok (.putfield 28, 3) := by decide +kernel
theorem dX6_copyFrom_8 : decode cX6_copyFrom 8 = .ok (.aload_n 1, 1) := by decide +kernel
theorem dX6_copyFrom_9 : decode cX6_copyFrom 9 = .ok (.getfield 9, 3) := by decide +kernel
theorem dX6_copyFrom_12 : decode cX6_copyFrom 12 = .ok (.iconst 0, 1) := by decide +kernel
theorem dX6_copyFrom_13 : decode cX6_copyFrom 13 = .ok (.aload_n 0, 1) := by decide +kernel
theorem dX6_copyFrom_14 : decode cX6_copyFrom 14 = .ok (.getfield 9, 3) := by decide +kernel
theorem dX6_copyFrom_17 : decode cX6_copyFrom 17 = .ok (.iconst 0, 1) := by decide +kernel
theorem dX6_copyFrom_18 : decode cX6_copyFrom 18 = .ok (.bipush 8, 2) := by decide +kernel
theorem dX6_copyFrom_20 : decode cX6_copyFrom 20 = .ok (.invokestatic 35, 3) := by decide +kernel
theorem dX6_copyFrom_23 : decode cX6_copyFrom 23 = .ok (.aload_n 1, 1) := by decide +kernel
theorem dX6_copyFrom_24 : decode cX6_copyFrom 24 = .ok (.getfield 15, 3) := by decide +kernel
theorem dX6_copyFrom_27 : decode cX6_copyFrom 27 = .ok (.iconst 0, 1) := by decide +kernel
theorem dX6_copyFrom_28 : decode cX6_copyFrom 28 = .ok (.aload_n 0, 1) := by decide +kernel
theorem dX6_copyFrom_29 : decode cX6_copyFrom 29 = .ok (.getfield 15, 3) := by decide +kernel
theorem dX6_copyFrom_32 : decode cX6_copyFrom 32 = .ok (.iconst 0, 1) := by decide +kernel
theorem dX6_copyFrom_33 : decode cX6_copyFrom 33 = .ok (.iconst 5, 1) := by decide +kernel
theorem dX6_copyFrom_34 : decode cX6_copyFrom 34 = .ok (.invokestatic 35, 3) := by decide +kernel
theorem dX6_copyFrom_37 : decode cX6_copyFrom 37 = .ok (.aload_n 1, 1) := by decide +kernel
theorem dX6_copyFrom_38 : decode cX6_copyFrom 38 = .ok (.getfield 18, 3) := by decide +kernel
theorem dX6_copyFrom_41 : decode cX6_copyFrom 41 = .ok (.iconst 0, 1) := by decide +kernel
theorem dX6_copyFrom_42 : decode cX6_copyFrom 42 = .ok (.aload_n 0, 1) := by decide +kernel
theorem dX6_copyFrom_43 : decode cX6_copyFrom 43 = .ok (.getfield 18, 3) := by decide +kernel
theorem dX6_copyFrom_46 : decode cX6_copyFrom 46 = .ok (.iconst 0, 1) := by decide +kernel
theorem dX6_copyFrom_47 : decode cX6_copyFrom 47 = .ok (.iconst 5, 1) := by decide +kernel
theorem dX6_copyFrom_48 : decode cX6_copyFrom 48 = .ok (.invokestatic 35, 3) := by decide +kernel
theorem dX6_copyFrom_51 : decode cX6_copyFrom 51 = .ok (.return_, 1) := by decide +kernel
theorem dX6_store_0 : decode cX6_store 0 = .ok (.aload_n 1, 1) := by decide +kernel
theorem dX6_store_1 : decode cX6_store 1 = .ok (.iload_n 2, 1) := by decide +kernel
theorem dX6_store_2 : decode cX6_store 2 = .ok (.aload_n 0, 1) := by decide +kernel
theorem dX6_store_3 : decode cX6_store 3 = .ok (.getfield 28, 3) := by decide +kernel
theorem dX6_store_6 : decode cX6_store 6 = .ok (.iastore, 1) := by decide +kernel
theorem dX6_store_7 : decode cX6_store 7 = .ok (.aload_n 0, 1) := by decide +kernel
theorem dX6_store_8 : decode cX6_store 8 = .ok (.getfield 9, 3) := by decide +kernel
theorem dX6_store_11 : decode cX6_store 11 = .ok (.iconst 0, 1) := by decide +kernel
theorem dX6_store_12 : decode cX6_store 12 = .ok (.aload_n 1, 1) := by decide +kernel
theorem dX6_store_13 : decode cX6_store 13 = .ok (.iload_n 2, 1) := by decide +kernel
theorem dX6_store_14 : decode cX6_store 14 = .ok (.iconst 1, 1) := by decide +kernel
theorem dX6_store_15 : decode cX6_store 15 = .ok (.iadd, 1) := by decide +kernel
theorem dX6_store_16 : decode cX6_store 16 = .ok (.bipush 8, 2) := by decide +kernel
theorem dX6_store_18 : decode cX6_store 18 = .ok (.invokestatic 35, 3) := by decide +kernel
theorem dX6_store_21 : decode cX6_store 21 = .ok (.aload_n 0, 1) := by decide +kernel
theorem dX6_store_22 : decode cX6_store 22 = .ok (.getfield 15, 3) := by decide +kernel
theorem dX6_store_25 : decode cX6_store 25 = .ok (.iconst 0, 1) := by decide +kernel
theorem dX6_store_26 : decode cX6_store 26 = .ok (.aload_n 1, 1) := by decide +kernel
theorem dX6_store_27 : decode cX6_store 27 = .ok (.iload_n 2, 1) := by decide +kernel
theorem dX6_store_28 : decode cX6_store 28 = .ok (.iconst 1, 1) := by decide +kernel
theorem dX6_store_29 : decode cX6_store 29 = .ok (.iadd, 1) := by decide +kernel
theorem dX6_store_30 : decode cX6_store 30 = .ok (.bipush 8, 2) := by decide +kernel
theorem dX6_store_32 : decode cX6_store 32 = .ok (.iadd, 1) := by decide +kernel
theorem dX6_store_33 : decode cX6_store 33 = .ok (.iconst 5, 1) := by decide +kernel
theorem dX6_store_34 : decode cX6_store 34 = .ok (.invokestatic 35, 3) := by decide +kernel
theorem dX6_store_37 : decode cX6_store 37 = .ok (.aload_n 0, 1) := by decide +kernel
theorem dX6_store_38 : decode cX6_store 38 = .ok (.getfield 18, 3) := by decide +kernel
theorem dX6_store_41 : decode cX6_store 41 = .ok (.iconst 0, 1) := by decide +kernel
theorem dX6_store_42 : decode cX6_store 42 = .ok (.aload_n 1, 1) := by decide +kernel
theorem dX6_store_43 : decode cX6_store 43 = .ok (.iload_n 2, 1) := by decide +kernel
theorem dX6_store_44 : decode cX6_store 44 = .ok (.iconst 1, 1) := by decide +kernel
theorem dX6_store_45 : decode cX6_store 45 = .ok (.iadd, 1) := by decide +kernel
theorem dX6_store_46 : decode cX6_store 46 = .ok (.bipush 8, 2) := by decide +kernel
theorem dX6_store_48 : decode cX6_store 48 = .ok (.iadd, 1) := by decide +kernel
theorem dX6_store_49 : decode cX6_store 49 = .ok (.iconst 5, 1) := by decide +kernel
theorem dX6_store_50 : decode cX6_store 50 = .ok (.iadd, 1) := by decide +kernel
theorem dX6_store_51 : decode cX6_store 51 = .ok (.iconst 5, 1) := by decide +kernel
theorem dX6_store_52 : decode cX6_store 52 = .ok (.invokestatic 35, 3) := by decide +kernel
theorem dX6_store_55 : decode cX6_store 55 = .ok (.return_, 1) := by decide +kernel
theorem dX6_restore_0 : decode cX6_restore 0 = .ok (.aload_n 0, 1) := by decide +kernel
theorem dX6_restore_1 : decode cX6_restore 1 = .ok (.aload_n 1, 1) := by decide +kernel
theorem dX6_restore_2 : decode cX6_restore 2 = .ok (.iload_n 2, 1) := by decide +kernel
theorem dX6_restore_3 : decode cX6_restore 3 = .ok (.iaload, 1) := by decide +kernel
theorem dX6_restore_4 : decode cX6_restore 4 = .ok (.putfield 28, 3) := by decide +kernel
theorem dX6_restore_7 : decode cX6_restore 7 = .ok (.aload_n 1, 1) := by decide +kernel
theorem dX6_restore_8 : decode cX6_restore 8 = .ok (.iload_n 2, 1) := by decide +kernel
theorem dX6_restore_9 : decode cX6_restore 9 = .ok (.iconst 1, 1) := by decide +kernel
theorem dX6_restore_10 : decode cX6_restore 10 = .ok (.iadd, 1) := by decide +kernel
theorem dX6_restore_11 : decode cX6_restore 11 = .ok (.aload_n 0, 1) := by decide +kernel
theorem dX6_restore_12 : decode cX6_restore 12 = .ok (.getfield 9, 3) := by decide +kernel
theorem dX6_restore_15 : decode cX6_restore 15 = .ok (.iconst 0, 1) := by decide +kernel
theorem dX6_restore_16 : decode cX6_restore 16 = .ok (.bipush 8, 2) := by decide +kernel
theorem dX6_restore_18 : decode cX6_restore 18 = .ok (.invokestatic 35, 3) := by decide +kernel
theorem dX6_restore_21 : decode cX6_restore 21 = .ok (.aload_n 1, 1) := by decide +kernel
theorem dX6_restore_22 : decode cX6_restore 22 = .ok (.iload_n 2, 1) := by decide +kernel
theorem dX6_restore_23 : decode cX6_restore 23 = .ok (.iconst 1, 1) := by decide +kernel
theorem dX6_restore_24 : decode cX6_restore 24 = .ok (.iadd, 1) := by decide +kernel
theorem dX6_restore_25 : decode cX6_restore 25 = .ok (.bipush 8, 2) := by decide +kernel
theorem dX6_restore_27 : decode cX6_restore 27 = .ok (.iadd, 1) := by decide +kernel
theorem dX6_restore_28 : decode cX6_restore 28 = .ok (.aload_n 0, 1) := by decide +kernel
theorem dX6_restore_29 : decode cX6_restore 29 = .ok (.getfield 15, 3) := by decide +kernel
theorem dX6_restore_32 : decode cX6_restore 32 = .ok (.iconst 0, 1) := by decide +kernel
theorem dX6_restore_33 : decode cX6_restore 33 = .ok (.iconst 5, 1) := by decide +kernel
theorem dX6_restore_34 : decode cX6_restore 34 = .ok (.invokestatic 35, 3) := by decide +kernel
theorem dX6_restore_37 : decode cX6_restore 37 = .ok (.aload_n 1, 1) := by decide +kernel
theorem dX6_restore_38 : decode cX6_restore 38 = .ok (.iload_n 2, 1) := by decide +kernel
theorem dX6_restore_39 : decode cX6_restore 39 = .ok (.iconst 1, 1) := by decide +kernel
theorem dX6_restore_40 : decode cX6_restore 40 = .ok (.iadd, 1) := by decide +kernel
theorem dX6_restore_41 : decode cX6_restore 41 = .ok (.bipush 8, 2) := by decide +kernel
theorem dX6_restore_43 : decode cX6_restore 43 = .ok (.iadd, 1) := by decide +kernel
theorem dX6_restore_44 : decode cX6_restore 44 = .ok (.iconst 5, 1) := by decide +kernel
theorem dX6_restore_45 : decode cX6_restore 45 = .ok (.iadd, 1) := by decide +kernel
theorem dX6_restore_46 : decode cX6_restore 46 = .ok (.aload_n 0, 1) := by decide +kernel
theorem dX6_restore_47 : decode cX6_restore 47 = .ok (.getfield 18, 3) := by decide +kernel
theorem dX6_restore_50 : decode cX6_restore 50 = .ok (.iconst 0, 1) := by decide +kernel
theorem dX6_restore_51 : decode cX6_restore 51 = .ok (.iconst 5, 1) := by decide +kernel
theorem dX6_restore_52 : decode cX6_restore 52 = .ok (.invokestatic 35, 3) := by decide +kernel
theorem dX6_restore_55 : decode cX6_restore 55 = .ok (.return_, 1) := by decide +kernel
theorem dX6_since_0 : decode cX6_since 0 = .ok (.aload_n 0, 1) := by decide +kernel
theorem dX6_since_1 : decode cX6_since 1 = .ok (.getfield 28, 3) := by decide +kernel
theorem dX6_since_4 : decode cX6_since 4 = .ok (.aload_n 0, 1) := by decide +kernel
theorem dX6_since_5 : decode cX6_since 5 = .ok (.getfield 9, 3) := by decide +kernel
theorem dX6_since_8 : decode cX6_since 8 = .ok (.iload_n 1, 1) := by decide +kernel
theorem dX6_since_9 : decode cX6_since 9 = .ok (.iaload, 1) := by decide +kernel
theorem dX6_since_10 : decode cX6_since 10 = .ok (.isub, 1) := by decide +kernel
theorem dX6_since_11 : decode cX6_since 11 = .ok (.istore_n 2, 1) := by decide +kernel
theorem dX6_since_12 : decode cX6_since 12 = .ok (.iload_n 2, 1) := by decide +kernel
theorem dX6_since_13 : decode cX6_since 13 = .ok (.bipush 99, 2) := by decide +kernel
theorem dX6_since_15 : decode cX6_since 15 = .ok (.if_icmp .ge 7, 3) := by decide +kernel
theorem dX6_since_18 : decode cX6_since 18 = .ok (.iload_n 2, 1) := by decide +kernel
theorem dX6_since_19 : decode cX6_since 19 = .ok (.goto 5, 3) := by decide +kernel
theorem dX6_since_22 : decode cX6_since 22 = .ok (.bipush 99, 2) := by decide +kernel
theorem dX6_since_24 : decode cX6_since 24 = .ok (.ireturn, 1) := by decide +kernel
theorem dX6_isKnown_0 : decode cX6_isKnown 0 = .ok (.aload_n 0, 1) := by decide +kernel
theorem dX6_isKnown_1 : decode cX6_isKnown 1 = .ok (.getfield 15, 3) := by decide +kernel
theorem dX6_isKnown_4 : decode cX6_isKnown 4 = .ok (.iload_n 1, 1) := by decide +kernel
theorem dX6_isKnown_5 : decode cX6_isKnown 5 = .ok (.iaload, 1) := by decide +kernel
theorem dX6_isKnown_6 : decode cX6_isKnown 6 = .ok (.iload_n 2, 1) := by decide +kernel
theorem dX6_isKnown_7 : decode cX6_isKnown 7 = .ok (.ishr, 1) := by decide +kernel
theorem dX6_isKnown_8 : decode cX6_isKnown 8 = .ok (.iconst 1, 1) := by decide +kernel
theorem dX6_isKnown_9 : decode cX6_isKnown 9 = .ok (.iand, 1) := by decide +kernel
theorem dX6_isKnown_10 : decode cX6_isKnown 10 = .ok (.ifCond .eq 7, 3) := by decide +kernel
theorem dX6_isKnown_13 : decode cX6_isKnown 13 = .ok (.iconst 1, 1) := by decide +kernel
theorem dX6_isKnown_14 : decode cX6_isKnown 14 = .ok (.goto 4, 3) := by decide +kernel
theorem dX6_isKnown_17 : decode cX6_isKnown 17 = .ok (.iconst 0, 1) := by decide +kernel
theorem dX6_isKnown_18 : decode cX6_isKnown 18 = .ok (.ireturn, 1) := by decide +kernel
theorem dX6_teach_0 : decode cX6_teach 0 = .ok (.iconst 0, 1) := by decide +kernel
theorem dX6_teach_1 : decode cX6_teach 1 = .ok (.istore_n 2, 1) := by decide +kernel
theorem dX6_teach_2 : decode cX6_teach 2 = .ok (.iload_n 2, 1) := by decide +kernel
theorem dX6_teach_3 : decode cX6_teach 3 = .ok (.iconst 5, 1) := by decide +kernel
theorem dX6_teach_4 : decode cX6_teach 4 = .ok (.if_icmp .ge 29, 3) := by decide +kernel
theorem dX6_teach_7 : decode cX6_teach 7 = .ok (.aload_n 0, 1) := by decide +kernel
theorem dX6_teach_8 : decode cX6_teach 8 = .ok (.getfield 18, 3) := by decide +kernel
theorem dX6_teach_11 : decode cX6_teach 11 = .ok (.iload_n 2, 1) := by decide +kernel
theorem dX6_teach_12 : decode cX6_teach 12 = .ok (.iaload, 1) := by decide +kernel
theorem dX6_teach_13 : decode cX6_teach 13 = .ok (.iconst (-1), 1) := by decide +kernel
theorem dX6_teach_14 : decode cX6_teach 14 = .ok (.if_icmp .ne 13, 3) := by decide +kernel
theorem dX6_teach_17 : decode cX6_teach 17 = .ok (.aload_n 0, 1) := by decide +kernel
theorem dX6_teach_18 : decode cX6_teach 18 = .ok (.getfield 15, 3) := by decide +kernel
theorem dX6_teach_21 : decode cX6_teach 21 = .ok (.iload_n 2, 1) := by decide +kernel
theorem dX6_teach_22 : decode cX6_teach 22 = .ok (.dup2, 1) := by decide +kernel
theorem dX6_teach_23 : decode cX6_teach 23 = .ok (.iaload, 1) := by decide +kernel
theorem dX6_teach_24 : decode cX6_teach 24 = .ok (.iload_n 1, 1) := by decide +kernel
theorem dX6_teach_25 : decode cX6_teach 25 = .ok (.ior, 1) := by decide +kernel
theorem dX6_teach_26 : decode cX6_teach 26 = .ok (.iastore, 1) := by decide +kernel
theorem dX6_teach_27 : decode cX6_teach 27 = .ok (.iinc 2 1, 3) := by decide +kernel
theorem dX6_teach_30 : decode cX6_teach 30 = .ok (.goto (-28), 3) := by decide +kernel
theorem dX6_teach_33 : decode cX6_teach 33 = .ok (.return_, 1) := by decide +kernel
theorem dX6_share_0 : decode cX6_share 0 = .ok (.aload_n 0, 1) := by decide +kernel
theorem dX6_share_1 : decode cX6_share 1 = .ok (.getfield 15, 3) := by decide +kernel
theorem dX6_share_4 : decode cX6_share 4 = .ok (.iload_n 1, 1) := by decide +kernel
theorem dX6_share_5 : decode cX6_share 5 = .ok (.iaload, 1) := by decide +kernel
theorem dX6_share_6 : decode cX6_share 6 = .ok (.aload_n 0, 1) := by decide +kernel
theorem dX6_share_7 : decode cX6_share 7 = .ok (.getfield 15, 3) := by decide +kernel
theorem dX6_share_10 : decode cX6_share 10 = .ok (.iload_n 2, 1) := by decide +kernel
theorem dX6_share_11 : decode cX6_share 11 = .ok (.iaload, 1) := by decide +kernel
theorem dX6_share_12 : decode cX6_share 12 = .ok (.ior, 1) := by decide +kernel
theorem dX6_share_13 : decode cX6_share 13 = .ok (.istore_n 3, 1) := by decide +kernel
theorem dX6_share_14 : decode cX6_share 14 = .ok (.aload_n 0, 1) := by decide +kernel
theorem dX6_share_15 : decode cX6_share 15 = .ok (.getfield 15, 3) := by decide +kernel
theorem dX6_share_18 : decode cX6_share 18 = .ok (.iload_n 1, 1) := by decide +kernel
theorem dX6_share_19 : decode cX6_share 19 = .ok (.iload_n 3, 1) := by decide +kernel
theorem dX6_share_20 : decode cX6_share 20 = .ok (.iastore, 1) := by decide +kernel
theorem dX6_share_21 : decode cX6_share 21 = .ok (.aload_n 0, 1) := by decide +kernel
theorem dX6_share_22 : decode cX6_share 22 = .ok (.getfield 15, 3) := by decide +kernel
theorem dX6_share_25 : decode cX6_share 25 = .ok (.iload_n 2, 1) := by decide +kernel
theorem dX6_share_26 : decode cX6_share 26 = .ok (.iload_n 3, 1) := by decide +kernel
theorem dX6_share_27 : decode cX6_share 27 = .ok (.iastore, 1) := by decide +kernel
theorem dX6_share_28 : decode cX6_share 28 = .ok (.iload_n 3, 1) := by decide +kernel
theorem dX6_share_29 : decode cX6_share 29 = .ok (.ireturn, 1) := by decide +kernel
theorem dX7_init_0 : decode cX7_init 0 = .ok (.aload_n 0, 1) := by decide +kernel
theorem dX7_init_1 : decode cX7_init 1 = .ok (.invokespecial 3, 3) := by decide +kernel
theorem dX7_init_4 : decode cX7_init 4 = .ok (.aload_n 0, 1) := by decide +kernel
theorem dX7_init_5 : decode cX7_init 5 = .ok (.sipush 400, 3) := by decide +kernel
theorem dX7_init_8 : decode cX7_init 8 = .ok (.newarray .int, 2) := by decide +kernel
theorem dX7_init_10 : decode cX7_init 10 = .ok (.putfield 9, 3) := by decide +kernel
theorem dX7_init_13 : decode cX7_init 13 = .ok (.return_, 1) := by decide +kernel
theorem dX7_put_0 : decode cX7_put 0 = .ok (.bipush 24, 2) := by decide +kernel
theorem dX7_put_2 : decode cX7_put 2 = .ok (.istore_n 2, 1) := by decide +kernel
theorem dX7_put_3 : decode cX7_put 3 = .ok (.iload_n 2, 1) := by decide +kernel
theorem dX7_put_4 : decode cX7_put 4 = .ok (.ifCond .lt 45, 3) := by decide +kernel
theorem dX7_put_7 : decode cX7_put 7 = .ok (.aload_n 0, 1) := by decide +kernel
theorem dX7_put_8 : decode cX7_put 8 = .ok (.getfield 15, 3) := by decide +kernel
theorem dX7_put_11 : decode cX7_put 11 = .ok (.sipush 400, 3) := by decide +kernel
theorem dX7_put_14 : decode cX7_put 14 = .ok (.if_icmp .ge 35, 3) := by decide +kernel
theorem dX7_put_17 : decode cX7_put 17 = .ok (.aload_n 0, 1) := by decide +kernel
theorem dX7_put_18 : decode cX7_put 18 = .ok (.getfield 9, 3) := by decide +kernel
theorem dX7_put_21 : decode cX7_put 21 = .ok (.aload_n 0, 1) := by decide +kernel
theorem dX7_put_22 : decode cX7_put 22 = .ok (.getfield 15, 3) := by decide +kernel
theorem dX7_put_25 : decode cX7_put 25 = .ok (.iload_n 1, 1) := by decide +kernel
theorem dX7_put_26 : decode cX7_put 26 = .ok (.iload_n 2, 1) := by decide +kernel
theorem dX7_put_27 : decode cX7_put 27 = .ok (.ishr, 1) := by decide +kernel
theorem dX7_put_28 : decode cX7_put 28 = .ok (.sipush 255, 3) := by decide +kernel
theorem dX7_put_31 : decode cX7_put 31 = .ok (.iand, 1) := by decide +kernel
theorem dX7_put_32 : decode cX7_put 32 = .ok (.iastore, 1) := by decide +kernel
theorem dX7_put_33 : decode cX7_put 33 = .ok (.aload_n 0, 1) := by decide +kernel
theorem dX7_put_34 : decode cX7_put 34 = .ok (.dup, 1) := by decide +kernel
theorem dX7_put_35 : decode cX7_put 35 = .ok (.getfield 15, 3) := by decide +kernel
theorem dX7_put_38 : decode cX7_put 38 = .ok (.iconst 1, 1) := by decide +kernel
theorem dX7_put_39 : decode cX7_put 39 = .ok (.iadd, 1) := by decide +kernel
theorem dX7_put_40 : decode cX7_put 40 = .ok (.putfield 15, 3) := by decide +kernel
theorem dX7_put_43 : decode cX7_put 43 = .ok (.iinc 2 (-8), 3) := by decide +kernel
theorem dX7_put_46 : decode cX7_put 46 = .ok (.goto (-43), 3) := by decide +kernel
theorem dX7_put_49 : decode cX7_put 49 = .ok (.return_, 1) := by decide +kernel
theorem dX7_rewind_0 : decode cX7_rewind 0 = .ok (.aload_n 0, 1) := by decide +kernel
theorem dX7_rewind_1 : decode cX7_rewind 1 = .ok (.iconst 0, 1) := by decide +kernel
theorem dX7_rewind_2 : decode cX7_rewind 2 = .ok (.putfield 19, 3) := by decide +kernel
theorem dX7_rewind_5 : decode cX7_rewind 5 = .ok (.aload_n 0, 1) := by decide +kernel
theorem dX7_rewind_6 : decode cX7_rewind 6 = .ok (.iconst 0, 1) := by decide +kernel
theorem dX7_rewind_7 : decode cX7_rewind 7 = .ok (.putfield 22, 3) := by decide +kernel
theorem dX7_rewind_10 : decode cX7_rewind 10 = .ok (.aload_n 0, 1) := by decide +kernel
theorem dX7_rewind_11 : decode cX7_rewind 11 = .ok (.invokevirtual 25, 3) := by decide +kernel
theorem dX7_rewind_14 : decode cX7_rewind 14 = .ok (.return_, 1) := by decide +kernel
theorem dX7_failAt_0 : decode cX7_failAt 0 = .ok (.aload_n 0, 1) := by decide +kernel
theorem dX7_failAt_1 : decode cX7_failAt 1 = .ok (.getfield 22, 3) := by decide +kernel
theorem dX7_failAt_4 : decode cX7_failAt 4 = .ok (.ifCond .ne 15, 3) := by decide +kernel
theorem dX7_failAt_7 : decode cX7_failAt 7 = .ok (.aload_n 0, 1) := by decide +kernel
theorem dX7_failAt_8 : decode cX7_failAt 8 = .ok (.iconst 1, 1) := by decide +kernel
theorem dX7_failAt_9 : decode cX7_failAt 9 = .ok (.bipush 8, 2) := by decide +kernel
theorem dX7_failAt_11 : decode cX7_failAt 11 = .ok (.iload_n 1, 1) := by decide +kernel
theorem dX7_failAt_12 : decode cX7_failAt 12 = .ok (.imul, 1) := by decide +kernel
theorem dX7_failAt_13 : decode cX7_failAt 13 = .ok (.iadd, 1) := by decide +kernel
theorem dX7_failAt_14 : decode cX7_failAt 14 = .ok (.iload_n 2, 1) := by decide +kernel
theorem dX7_failAt_15 : decode cX7_failAt 15 = .ok (.iadd, 1) := by decide +kernel
theorem dX7_failAt_16 : decode cX7_failAt 16 = .ok (.putfield 22, 3) := by decide +kernel
theorem dX7_failAt_19 : decode cX7_failAt 19 = .ok (.iconst 0, 1) := by decide +kernel
theorem dX7_failAt_20 : decode cX7_failAt 20 = .ok (.ireturn, 1) := by decide +kernel
theorem dX7_next_0 : decode cX7_next 0 = .ok (.aload_n 0, 1) := by decide +kernel
theorem dX7_next_1 : decode cX7_next 1 = .ok (.getfield 19, 3) := by decide +kernel
theorem dX7_next_4 : decode cX7_next 4 = .ok (.aload_n 0, 1) := by decide +kernel
theorem dX7_next_5 : decode cX7_next 5 = .ok (.getfield 15, 3) := by decide +kernel
theorem dX7_next_8 : decode cX7_next 8 = .ok (.if_icmp .ge 30, 3) := by decide +kernel
theorem dX7_next_11 : decode cX7_next 11 = .ok (.aload_n 0, 1) := by decide +kernel
theorem dX7_next_12 : decode cX7_next 12 = .ok (.getfield 9, 3) := by decide +kernel
theorem dX7_next_15 : decode cX7_next 15 = .ok (.aload_n 0, 1) := by decide +kernel
theorem dX7_next_16 : decode cX7_next 16 = .ok (.getfield 19, 3) := by decide +kernel
theorem dX7_next_19 : decode cX7_next 19 = .ok (.iaload, 1) := by decide +kernel
theorem dX7_next_20 : decode cX7_next 20 = .ok (.bipush 32, 2) := by decide +kernel
theorem dX7_next_22 : decode cX7_next 22 = .ok (.if_icmp .ne 16, 3) := by decide +kernel
theorem dX7_next_25 : decode cX7_next 25 = .ok (.aload_n 0, 1) := by decide +kernel
theorem dX7_next_26 : decode cX7_next 26 = .ok (.dup, 1) := by decide +kernel
theorem dX7_next_27 : decode cX7_next 27 = .ok (.getfield 19, 3) := by decide +kernel
theorem dX7_next_30 : decode cX7_next 30 = .ok (.iconst 1, 1) := by decide +kernel
theorem dX7_next_31 : decode cX7_next 31 = .ok (.iadd, 1) := by decide +kernel
theorem dX7_next_32 : decode cX7_next 32 = .ok (.putfield 19, 3) := by decide +kernel
theorem dX7_next_35 : decode cX7_next 35 = .ok (.goto (-35), 3) := by decide +kernel
theorem dX7_next_38 : decode cX7_next 38 = .ok (.aload_n 0, 1) := by decide +kernel
theorem dX7_next_39 : decode cX7_next 39 = .ok (.iconst 0, 1) := by decide +kernel
theorem dX7_next_40 : decode cX7_next 40 = .ok (.putfield 28, 3) := by decide +kernel
theorem dX7_next_43 : decode cX7_next 43 = .ok (.aload_n 0, 1) := by decide +kernel
theorem dX7_next_44 : decode cX7_next 44 = .ok (.aload_n 0, 1) := by decide +kernel
theorem dX7_next_45 : decode cX7_next 45 = .ok (.getfield 19, 3) := by decide +kernel
theorem dX7_next_48 : decode cX7_next 48 = .ok (.putfield 31, 3) := by decide +kernel
theorem dX7_next_51 : decode cX7_next 51 = .ok (.aload_n 0, 1) := by decide +kernel
theorem dX7_next_52 : decode cX7_next 52 = .ok (.iconst 0, 1) := by decide +kernel
theorem dX7_next_53 : decode cX7_next 53 = .ok (.putfield 34, 3) := by decide +kernel
theorem dX7_next_56 : decode cX7_next 56 = .ok (.aload_n 0, 1) := by decide +kernel
theorem dX7_next_57 : decode cX7_next 57 = .ok (.lconst 0, 1) := by decide +kernel
theorem dX7_next_58 : decode cX7_next 58 = .ok (.putfield 37, 3) := by decide +kernel
theorem dX7_next_61 : decode cX7_next 61 = .ok (.aload_n 0, 1) := by decide +kernel
theorem dX7_next_62 : decode cX7_next 62 = .ok (.iconst (-1), 1) := by decide +kernel
theorem dX7_next_63 : decode cX7_next 63 = .ok (.putfield 41, 3) := by decide +kernel
theorem dX7_next_66 : decode cX7_next 66 = .ok (.aload_n 0, 1) := by decide +kernel
theorem dX7_next_67 : decode cX7_next 67 = .ok (.getfield 19, 3) := by decide +kernel
theorem dX7_next_70 : decode cX7_next 70 = .ok (.aload_n 0, 1) := by decide +kernel
theorem dX7_next_71 : decode cX7_next 71 = .ok (.getfield 15, 3) := by decide +kernel
theorem dX7_next_74 : decode cX7_next 74 = .ok (.if_icmp .ge 91, 3) := by decide +kernel
theorem dX7_next_77 : decode cX7_next 77 = .ok (.aload_n 0, 1) := by decide +kernel
theorem dX7_next_78 : decode cX7_next 78 = .ok (.getfield 9, 3) := by decide +kernel
theorem dX7_next_81 : decode cX7_next 81 = .ok (.aload_n 0, 1) := by decide +kernel
theorem dX7_next_82 : decode cX7_next 82 = .ok (.getfield 19, 3) := by decide +kernel
theorem dX7_next_85 : decode cX7_next 85 = .ok (.iaload, 1) := by decide +kernel
theorem dX7_next_86 : decode cX7_next 86 = .ok (.bipush 48, 2) := by decide +kernel
theorem dX7_next_88 : decode cX7_next 88 = .ok (.if_icmp .lt 77, 3) := by decide +kernel
theorem dX7_next_91 : decode cX7_next 91 = .ok (.aload_n 0, 1) := by decide +kernel
theorem dX7_next_92 : decode cX7_next 92 = .ok (.getfield 9, 3) := by decide +kernel
theorem dX7_next_95 : decode cX7_next 95 = .ok (.aload_n 0, 1) := by decide +kernel
theorem dX7_next_96 : decode cX7_next 96 = .ok (.getfield 19, 3) := by decide +kernel
theorem dX7_next_99 : decode cX7_next 99 = .ok (.iaload, 1) := by decide +kernel
theorem dX7_next_100 : decode cX7_next 100 = .ok (.bipush 57, 2) := by decide +kernel
theorem dX7_next_102 : decode cX7_next 102 = .ok (.if_icmp .gt 63, 3) := by decide +kernel
theorem dX7_next_105 : decode cX7_next 105 = .ok (.aload_n 0, 1) := by decide +kernel
theorem dX7_next_106 : decode cX7_next 106 = .ok (.iconst 1, 1) := by decide +kernel
theorem dX7_next_107 : decode cX7_next 107 = .ok (.putfield 28, 3) := by decide +kernel
theorem dX7_next_110 : decode cX7_next 110 = .ok (.aload_n 0, 1) := by decide +kernel
theorem dX7_next_111 : decode cX7_next 111 = .ok (.aload_n 0, 1) := by decide +kernel
theorem dX7_next_112 : decode cX7_next 112 = .ok (.getfield 19, 3) := by decide +kernel
theorem dX7_next_115 : decode cX7_next 115 = .ok (.aload_n 0, 1) := by decide +kernel
theorem dX7_next_116 : decode cX7_next 116 = .ok (.getfield 31, 3) := by decide +kernel
theorem dX7_next_119 : decode cX7_next 119 = .ok (.isub, 1) := by decide +kernel
theorem dX7_next_120 : decode cX7_next 120 = .ok (.iconst 5, 1) := by decide +kernel
theorem dX7_next_121 : decode cX7_next 121 = .ok (.if_icmp .ge 26, 3) := by decide +kernel
theorem dX7_next_124 : decode cX7_next 124 = .ok (.bipush 10, 2) := by decide +kernel
theorem dX7_next_126 : decode cX7_next 126 = .ok (.aload_n 0, 1) := by decide +kernel
theorem dX7_next_127 : decode cX7_next 127 = .ok (.getfield 34, 3) := by decide +kernel
theorem dX7_next_130 : decode cX7_next 130 = .ok (.imul, 1) := by decide +kernel
theorem dX7_next_131 : decode cX7_next 131 = .ok (.aload_n 0, 1) := by decide +kernel
theorem dX7_next_132 : decode cX7_next 132 = .ok (.getfield 9, 3) := by decide +kernel
theorem dX7_next_135 : decode cX7_next 135 = .ok (.aload_n 0, 1) := by decide +kernel
theorem dX7_next_136 : decode cX7_next 136 = .ok (.getfield 19, 3) := by decide +kernel
theorem dX7_next_139 : decode cX7_next 139 = .ok (.iaload, 1) := by decide +kernel
theorem dX7_next_140 : decode cX7_next 140 = .ok (.iadd, 1) := by decide +kernel
theorem dX7_next_141 : decode cX7_next 141 = .ok (.bipush 48, 2) := by decide +kernel
theorem dX7_next_143 : decode cX7_next 143 = .ok (.isub, 1) := by decide +kernel
theorem dX7_next_144 : decode cX7_next 144 = .ok (.goto 5, 3) := by decide +kernel
theorem dX7_next_147 : decode cX7_next 147 = .ok (.ldc 44, 2) := by decide +kernel
theorem dX7_next_149 : decode cX7_next 149 = .ok (.putfield 34, 3) := by decide +kernel
theorem dX7_next_152 : decode cX7_next 152 = .ok (.aload_n 0, 1) := by decide +kernel
theorem dX7_next_153 : decode cX7_next 153 = .ok (.dup, 1) := by decide +kernel
theorem dX7_next_154 : decode cX7_next 154 = .ok (.getfield 19, 3) := by decide +kernel
theorem dX7_next_157 : decode cX7_next 157 = .ok (.iconst 1, 1) := by decide +kernel
theorem dX7_next_158 : decode cX7_next 158 = .ok (.iadd, 1) := by decide +kernel
theorem dX7_next_159 : decode cX7_next 159 = .ok (.putfield 19, 3) := by decide +kernel
theorem dX7_next_162 : decode cX7_next 162 = .ok (.goto (-96), 3) := by decide +kernel
theorem dX7_next_165 : decode cX7_next 165 = .ok (.aload_n 0, 1) := by decide +kernel
theorem dX7_next_166 : decode cX7_next 166 = .ok (.getfield 28, 3) := by decide +kernel
theorem dX7_next_169 : decode cX7_next 169 = .ok (.iconst 1, 1) := by decide +kernel
theorem dX7_next_170 : decode cX7_next 170 = .ok (.if_icmp .eq 100, 3) := by decide +kernel
theorem dX7_next_173 : decode cX7_next 173 = .ok (.aload_n 0, 1) := by decide +kernel
theorem dX7_next_174 : decode cX7_next 174 = .ok (.getfield 19, 3) := by decide +kernel
theorem dX7_next_177 : decode cX7_next 177 = .ok (.aload_n 0, 1) := by decide +kernel
theorem dX7_next_178 : decode cX7_next 178 = .ok (.getfield 15, 3) := by decide +kernel
theorem dX7_next_181 : decode cX7_next 181 = .ok (.if_icmp .ge 89, 3) := by decide +kernel
theorem dX7_next_184 : decode cX7_next 184 = .ok (.aload_n 0, 1) := by decide +kernel
theorem dX7_next_185 : decode cX7_next 185 = .ok (.getfield 9, 3) := by decide +kernel
theorem dX7_next_188 : decode cX7_next 188 = .ok (.aload_n 0, 1) := by decide +kernel
theorem dX7_next_189 : decode cX7_next 189 = .ok (.getfield 19, 3) := by decide +kernel
theorem dX7_next_192 : decode cX7_next 192 = .ok (.iaload, 1) := by decide +kernel
theorem dX7_next_193 : decode cX7_next 193 = .ok (.bipush 97, 2) := by decide +kernel
theorem dX7_next_195 : decode cX7_next 195 = .ok (.if_icmp .lt 75, 3) := by decide +kernel
theorem dX7_next_198 : decode cX7_next 198 = .ok (.aload_n 0, 1) := by decide +kernel
theorem dX7_next_199 : decode cX7_next 199 = .ok (.getfield 9, 3) := by decide +kernel
theorem dX7_next_202 : decode cX7_next 202 = .ok (.aload_n 0, 1) := by decide +kernel
theorem dX7_next_203 : decode cX7_next 203 = .ok (.getfield 19, 3) := by decide +kernel
theorem dX7_next_206 : decode cX7_next 206 = .ok (.iaload, 1) := by decide +kernel
theorem dX7_next_207 : decode cX7_next 207 = .ok (.bipush 122, 2) := by decide +kernel
theorem dX7_next_209 : decode cX7_next 209 = .ok (.if_icmp .gt 61, 3) := by decide +kernel
theorem dX7_next_212 : decode cX7_next 212 = .ok (.aload_n 0, 1) := by decide +kernel
theorem dX7_next_213 : decode cX7_next 213 = .ok (.iconst 2, 1) := by decide +kernel
theorem dX7_next_214 : decode cX7_next 214 = .ok (.putfield 28, 3) := by decide +kernel
theorem dX7_next_217 : decode cX7_next 217 = .ok (.aload_n 0, 1) := by decide +kernel
theorem dX7_next_218 : decode cX7_next 218 = .ok (.aload_n 0, 1) := by decide +kernel
theorem dX7_next_219 : decode cX7_next 219 = .ok (.getfield 19, 3) := by decide +kernel
theorem dX7_next_222 : decode cX7_next 222 = .ok (.aload_n 0, 1) := by decide +kernel
theorem dX7_next_223 : decode cX7_next 223 = .ok (.getfield 31, 3) := by decide +kernel
theorem dX7_next_226 : decode cX7_next 226 = .ok (.isub, 1) := by decide +kernel
theorem dX7_next_227 : decode cX7_next 227 = .ok (.bipush 7, 2) := by decide +kernel
theorem dX7_next_229 : decode cX7_next 229 = .ok (.if_icmp .ge 24, 3) := by decide +kernel
theorem dX7_next_232 : decode cX7_next 232 = .ok (.aload_n 0, 1) := by decide +kernel
theorem dX7_next_233 : decode cX7_next 233 = .ok (.getfield 37, 3) := by decide +kernel
theorem dX7_next_236 : decode cX7_next 236 = .ok (.bipush 8, 2) := by decide +kernel
theorem dX7_next_238 : decode cX7_next 238 = .ok (.lshl, 1) := by decide +kernel
theorem dX7_next_239 : decode cX7_next 239 = .ok (.aload_n 0, 1) := by decide +kernel
theorem dX7_next_240 : decode cX7_next 240 = .ok (.getfield 9, 3) := by decide +kernel
theorem dX7_next_243 : decode cX7_next 243 = .ok (.aload_n 0, 1) := by decide +kernel
theorem dX7_next_244 : decode cX7_next 244 = .ok (.getfield 19, 3) := by decide +kernel
theorem dX7_next_247 : decode cX7_next 247 = .ok (.iaload, 1) := by decide +kernel
theorem dX7_next_248 : decode cX7_next 248 = .ok (.i2l, 1) := by decide +kernel
theorem dX7_next_249 : decode cX7_next 249 = .ok (.lor, 1) := by decide +kernel
theorem dX7_next_250 : decode cX7_next 250 = .ok (.goto 4, 3) := by decide +kernel
theorem dX7_next_253 : decode cX7_next 253 = .ok (.lconst 0, 1) := by decide +kernel
theorem dX7_next_254 : decode cX7_next 254 = .ok (.putfield 37, 3) := by decide +kernel
theorem dX7_next_257 : decode cX7_next 257 = .ok (.aload_n 0, 1) := by decide +kernel
theorem dX7_next_258 : decode cX7_next 258 = .ok (.dup, 1) := by decide +kernel
theorem dX7_next_259 : decode cX7_next 259 = .ok (.getfield 19, 3) := by decide +kernel
theorem dX7_next_262 : decode cX7_next 262 = .ok (.iconst 1, 1) := by decide +kernel
theorem dX7_next_263 : decode cX7_next 263 = .ok (.iadd, 1) := by decide +kernel
theorem dX7_next_264 : decode cX7_next 264 = .ok (.putfield 19, 3) := by decide +kernel
theorem dX7_next_267 : decode cX7_next 267 = .ok (.goto (-102), 3) := by decide +kernel
theorem dX7_next_270 : decode cX7_next 270 = .ok (.aload_n 0, 1) := by decide +kernel
theorem dX7_next_271 : decode cX7_next 271 = .ok (.getfield 28, 3) := by decide +kernel
theorem dX7_next_274 : decode cX7_next 274 = .ok (.ifCond .ne 107, 3) := by decide +kernel
theorem dX7_next_277 : decode cX7_next 277 = .ok (.aload_n 0, 1) := by decide +kernel
theorem dX7_next_278 : decode cX7_next 278 = .ok (.getfield 19, 3) := by decide +kernel
theorem dX7_next_281 : decode cX7_next 281 = .ok (.aload_n 0, 1) := by decide +kernel
theorem dX7_next_282 : decode cX7_next 282 = .ok (.getfield 15, 3) := by decide +kernel
theorem dX7_next_285 : decode cX7_next 285 = .ok (.if_icmp .ge 96, 3) := by decide +kernel
theorem dX7_next_288 : decode cX7_next 288 = .ok (.aload_n 0, 1) := by decide +kernel
theorem dX7_next_289 : decode cX7_next 289 = .ok (.iconst 3, 1) := by decide +kernel
theorem dX7_next_290 : decode cX7_next 290 = .ok (.putfield 28, 3) := by decide +kernel
theorem dX7_next_293 : decode cX7_next 293 = .ok (.aload_n 0, 1) := by decide +kernel
theorem dX7_next_294 : decode cX7_next 294 = .ok (.aload_n 0, 1) := by decide +kernel
theorem dX7_next_295 : decode cX7_next 295 = .ok (.getfield 9, 3) := by decide +kernel
theorem dX7_next_298 : decode cX7_next 298 = .ok (.aload_n 0, 1) := by decide +kernel
theorem dX7_next_299 : decode cX7_next 299 = .ok (.getfield 19, 3) := by decide +kernel
theorem dX7_next_302 : decode cX7_next 302 = .ok (.iaload, 1) := by decide +kernel
theorem dX7_next_303 : decode cX7_next 303 = .ok (.putfield 41, 3) := by decide +kernel
theorem dX7_next_306 : decode cX7_next 306 = .ok (.aload_n 0, 1) := by decide +kernel
theorem dX7_next_307 : decode cX7_next 307 = .ok (.dup, 1) := by decide +kernel
theorem dX7_next_308 : decode cX7_next 308 = .ok (.getfield 19, 3) := by decide +kernel
theorem dX7_next_311 : decode cX7_next 311 = .ok (.iconst 1, 1) := by decide +kernel
theorem dX7_next_312 : decode cX7_next 312 = .ok (.iadd, 1) := by decide +kernel
theorem dX7_next_313 : decode cX7_next 313 = .ok (.putfield 19, 3) := by decide +kernel
theorem dX7_next_316 : decode cX7_next 316 = .ok (.aload_n 0, 1) := by decide +kernel
theorem dX7_next_317 : decode cX7_next 317 = .ok (.getfield 41, 3) := by decide +kernel
theorem dX7_next_320 : decode cX7_next 320 = .ok (.bipush 60, 2) := by decide +kernel
theorem dX7_next_322 : decode cX7_next 322 = .ok (.if_icmp .eq 12, 3) := by decide +kernel
theorem dX7_next_325 : decode cX7_next 325 = .ok (.aload_n 0, 1) := by decide +kernel
theorem dX7_next_326 : decode cX7_next 326 = .ok (.getfield 41, 3) := by decide +kernel
theorem dX7_next_329 : decode cX7_next 329 = .ok (.bipush 62, 2) := by decide +kernel
theorem dX7_next_331 : decode cX7_next 331 = .ok (.if_icmp .ne 50, 3) := by decide +kernel
theorem dX7_next_334 : decode cX7_next 334 = .ok (.aload_n 0, 1) := by decide +kernel
theorem dX7_next_335 : decode cX7_next 335 = .ok (.getfield 19, 3) := by decide +kernel
theorem dX7_next_338 : decode cX7_next 338 = .ok (.aload_n 0, 1) := by decide +kernel
theorem dX7_next_339 : decode cX7_next 339 = .ok (.getfield 15, 3) := by decide +kernel
theorem dX7_next_342 : decode cX7_next 342 = .ok (.if_icmp .ge 39, 3) := by decide +kernel
theorem dX7_next_345 : decode cX7_next 345 = .ok (.aload_n 0, 1) := by decide +kernel
theorem dX7_next_346 : decode cX7_next 346 = .ok (.getfield 9, 3) := by decide +kernel
theorem dX7_next_349 : decode cX7_next 349 = .ok (.aload_n 0, 1) := by decide +kernel
theorem dX7_next_350 : decode cX7_next 350 = .ok (.getfield 19, 3) := by decide +kernel
theorem dX7_next_353 : decode cX7_next 353 = .ok (.iaload, 1) := by decide +kernel
theorem dX7_next_354 : decode cX7_next 354 = .ok (.bipush 61, 2) := by decide +kernel
theorem dX7_next_356 : decode cX7_next 356 = .ok (.if_icmp .ne 25, 3) := by decide +kernel
theorem dX7_next_359 : decode cX7_next 359 = .ok (.aload_n 0, 1) := by decide +kernel
theorem dX7_next_360 : decode cX7_next 360 = .ok (.dup, 1) := by decide +kernel
theorem dX7_next_361 : decode cX7_next 361 = .ok (.getfield 41, 3) := by decide +kernel
theorem dX7_next_364 : decode cX7_next 364 = .ok (.sipush 256, 3) := by decide +kernel
theorem dX7_next_367 : decode cX7_next 367 = .ok (.iadd, 1) := by decide +kernel
theorem dX7_next_368 : decode cX7_next 368 = .ok (.putfield 41, 3) := by decide +kernel
theorem dX7_next_371 : decode cX7_next 371 = .ok (.aload_n 0, 1) := by decide +kernel
theorem dX7_next_372 : decode cX7_next 372 = .ok (.dup, 1) := by decide +kernel
theorem dX7_next_373 : decode cX7_next 373 = .ok (.getfield 19, 3) := by decide +kernel
theorem dX7_next_376 : decode cX7_next 376 = .ok (.iconst 1, 1) := by decide +kernel
theorem dX7_next_377 : decode cX7_next 377 = .ok (.iadd, 1) := by decide +kernel
theorem dX7_next_378 : decode cX7_next 378 = .ok (.putfield 19, 3) := by decide +kernel
theorem dX7_next_381 : decode cX7_next 381 = .ok (.return_, 1) := by decide +kernel
theorem dX7_takeNumber_0 : decode cX7_takeNumber 0 = .ok (.aload_n 0, 1) := by decide +kernel
theorem dX7_takeNumber_1 : decode cX7_takeNumber 1 = .ok (.getfield 28, 3) := by decide +kernel
theorem dX7_takeNumber_4 : decode cX7_takeNumber 4 = .ok (.iconst 1, 1) := by decide +kernel
theorem dX7_takeNumber_5 : decode cX7_takeNumber 5 = .ok (.if_icmp .eq 15, 3) := by decide +kernel
theorem dX7_takeNumber_8 : decode cX7_takeNumber 8 = .ok (.aload_n 0, 1) := by decide +kernel
theorem dX7_takeNumber_9 : decode cX7_takeNumber 9 = .ok (.aload_n 0, 1) := by decide +kernel
theorem dX7_takeNumber_10 : decode cX7_takeNumber 10 = .ok (.getfield 31, 3) := by decide +kernel
theorem dX7_takeNumber_13 : decode cX7_takeNumber 13 = .ok (.iconst 0, 1) := by decide +kernel
theorem dX7_takeNumber_14 : decode cX7_takeNumber 14 = .ok (.invokevirtual 45, 3) := by decide +kernel
theorem dX7_takeNumber_17 : decode cX7_takeNumber 17 = .ok (.pop, 1) := by decide +kernel
theorem dX7_takeNumber_18 : decode cX7_takeNumber 18 = .ok (.iconst (-1), 1) := by decide +kernel
theorem dX7_takeNumber_19 : decode cX7_takeNumber 19 = .ok (.ireturn, 1) := by decide +kernel
theorem dX7_takeNumber_20 : decode cX7_takeNumber 20 = .ok (.aload_n 0, 1) := by decide +kernel
theorem dX7_takeNumber_21 : decode cX7_takeNumber 21 = .ok (.getfield 34, 3) := by decide +kernel
theorem dX7_takeNumber_24 : decode cX7_takeNumber 24 = .ok (.iload_n 1, 1) := by decide +kernel
theorem dX7_takeNumber_25 : decode cX7_takeNumber 25 = .ok (.if_icmp .lt 11, 3) := by decide +kernel
theorem dX7_takeNumber_28 : decode cX7_takeNumber 28 = .ok (.aload_n 0, 1) := by decide +kernel
theorem dX7_takeNumber_29 : decode cX7_takeNumber 29 = .ok (.getfield 34, 3) := by decide +kernel
theorem dX7_takeNumber_32 : decode cX7_takeNumber 32 = .ok (.iload_n 2, 1) := by decide +kernel
theorem dX7_takeNumber_33 : decode cX7_takeNumber 33 = .ok (.if_icmp .le 15, 3) := by decide +kernel
theorem dX7_takeNumber_36 : decode cX7_takeNumber 36 = .ok (.aload_n 0, 1) := by decide +kernel
theorem dX7_takeNumber_37 : decode cX7_takeNumber 37 = .ok (.aload_n 0, 1) := by decide +kernel
theorem dX7_takeNumber_38 : decode cX7_takeNumber 38 = .ok (.getfield 31, 3) := by decide +kernel
theorem dX7_takeNumber_41 : decode cX7_takeNumber 41 = .ok (.iconst 1, 1) := by decide +kernel
theorem dX7_takeNumber_42 : decode cX7_takeNumber 42 = .ok (.invokevirtual 45, 3) := by decide +kernel
theorem dX7_takeNumber_45 : decode cX7_takeNumber 45 = .ok (.pop, 1) := by decide +kernel
theorem dX7_takeNumber_46 : decode cX7_takeNumber 46 = .ok (.iconst (-1), 1) := by decide +kernel
theorem dX7_takeNumber_47 : decode cX7_takeNumber 47 = .ok (.ireturn, 1) := by decide +kernel
theorem dX7_takeNumber_48 : decode cX7_takeNumber 48 = .ok (.aload_n 0, 1) := by decide +kernel
theorem dX7_takeNumber_49 : decode cX7_takeNumber 49 = .ok (.getfield 34, 3) := by decide +kernel
theorem dX7_takeNumber_52 : decode cX7_takeNumber 52 = .ok (.istore_n 3, 1) := by decide +kernel
theorem dX7_takeNumber_53 : decode cX7_takeNumber 53 = .ok (.aload_n 0, 1) := by decide +kernel
theorem dX7_takeNumber_54 : decode cX7_takeNumber 54 = .ok (.invokevirtual 25, 3) := by decide +kernel
theorem dX7_takeNumber_57 : decode cX7_takeNumber 57 = .ok (.iload_n 3, 1) := by decide +kernel
theorem dX7_takeNumber_58 : decode cX7_takeNumber 58 = .ok (.ireturn, 1) := by decide +kernel
theorem dX7_takesSeparator_0 : decode cX7_takesSeparator 0 = .ok (.aload_n 0, 1) := by decide +kernel
theorem dX7_takesSeparator_1 : decode cX7_takesSeparator 1 = .ok (.getfield 41, 3) := by decide +kernel
theorem dX7_takesSeparator_4 : decode cX7_takesSeparator 4 = .ok (.bipush 59, 2) := by decide +kernel
theorem dX7_takesSeparator_6 : decode cX7_takesSeparator 6 = .ok (.if_icmp .ne 9, 3) := by decide +kernel
theorem dX7_takesSeparator_9 : decode cX7_takesSeparator 9 = .ok (.aload_n 0, 1) := by decide +kernel
theorem dX7_takesSeparator_10 : decode cX7_takesSeparator 10 = .ok (.invokevirtual 25, 3) := by decide +kernel
theorem dX7_takesSeparator_13 : decode cX7_takesSeparator 13 = .ok (.iconst 1, 1) := by decide +kernel
theorem dX7_takesSeparator_14 : decode cX7_takesSeparator 14 = .ok (.ireturn, 1) := by decide +kernel
theorem dX7_takesSeparator_15 : decode cX7_takesSeparator 15 = .ok (.aload_n 0, 1) := by decide +kernel
theorem dX7_takesSeparator_16 : decode cX7_takesSeparator 16 = .ok (.getfield 28, 3) := by decide +kernel
theorem dX7_takesSeparator_19 : decode cX7_takesSeparator 19 = .ok (.ifCond .eq 19, 3) := by decide +kernel
theorem dX7_takesSeparator_22 : decode cX7_takesSeparator 22 = .ok (.aload_n 0, 1) := by decide +kernel
theorem dX7_takesSeparator_23 : decode cX7_takesSeparator 23 = .ok (.aload_n 0, 1) := by decide +kernel
theorem dX7_takesSeparator_24 : decode cX7_takesSeparator 24 = .ok (.getfield 31, 3) := by decide +kernel
theorem dX7_takesSeparator_27 : decode cX7_takesSeparator 27 = .ok (.iconst 0, 1) := by decide +kernel
theorem dX7_takesSeparator_28 : decode cX7_takesSeparator 28 = .ok (.invokevirtual 45, 3) := by decide +kernel
theorem dX7_takesSeparator_31 : decode cX7_takesSeparator 31 = .ok (.ifCond .eq 7, 3) := by decide +kernel
theorem dX7_takesSeparator_34 : decode cX7_takesSeparator 34 = .ok (.iconst 1, 1) := by decide +kernel
theorem dX7_takesSeparator_35 : decode cX7_takesSeparator 35 = .ok (.goto 4, 3) := by decide +kernel
theorem dX7_takesSeparator_38 : decode cX7_takesSeparator 38 = .ok (.iconst 0, 1) := by decide +kernel
theorem dX7_takesSeparator_39 : decode cX7_takesSeparator 39 = .ok (.ireturn, 1) := by decide +kernel
theorem dX8_init_0 : decode cX8_init 0 = .ok (.aload_n 0, 1) := by decide +kernel
theorem dX8_init_1 : decode cX8_init 1 = .ok (.invokespecial 3, 3) := by decide +kernel
theorem dX8_init_4 : decode cX8_init 4 = .ok (.aload_n 0, 1) := by decide +kernel
theorem dX8_init_5 : decode cX8_init 5 = .ok (.bipush 24, 2) := by decide +kernel
theorem dX8_init_7 : decode cX8_init 7 = .ok (.newarray .int, 2) := by decide +kernel
theorem dX8_init_9 : decode cX8_init 9 = .ok (.putfield 9, 3) := by decide +kernel
theorem dX8_init_12 : decode cX8_init 12 = .ok (.aload_n 0, 1) := by decide +kernel
theorem dX8_init_13 : decode cX8_init 13 = .ok (.iconst 5, 1) := by decide +kernel
theorem dX8_init_14 : decode cX8_init 14 = .ok (.newarray .int, 2) := by decide +kernel
theorem dX8_init_16 : decode cX8_init 16 = .ok (.putfield 15, 3) := by decide +kernel
theorem dX8_init_19 : decode cX8_init 19 = .ok (.aload_n 0, 1) := by decide +kernel
theorem dX8_init_20 : decode cX8_init 20 = .ok (.iconst 5, 1) := by decide +kernel
theorem dX8_init_21 : decode cX8_init 21 = .ok (.newarray .int, 2) := by decide +kernel
theorem dX8_init_23 : decode cX8_init 23 = .ok (.putfield 18, 3) := by decide +kernel
theorem dX8_init_26 : decode cX8_init 26 = .ok (.aload_n 0, 1) := by decide +kernel
theorem dX8_init_27 : decode cX8_init 27 = .ok (.iconst 5, 1) := by decide +kernel
theorem dX8_init_28 : decode cX8_init 28 = .ok (.newarray .int, 2) := by decide +kernel
theorem dX8_init_30 : decode cX8_init 30 = .ok (.putfield 21, 3) := by decide +kernel
theorem dX8_init_33 : decode cX8_init 33 = .ok (.aload_n 0, 1) := by decide +kernel
theorem dX8_init_34 : decode cX8_init 34 = .ok (.bipush 32, 2) := by decide +kernel
theorem dX8_init_36 : decode cX8_init 36 = .ok (.newarray .int, 2) := by decide +kernel
theorem dX8_init_38 : decode cX8_init 38 = .ok (.putfield 24, 3) := by decide +kernel
theorem dX8_init_41 : decode cX8_init 41 = .ok (.return_, 1) := by decide +kernel
theorem dX8_clear_0 : decode cX8_clear 0 = .ok (.aload_n 0, 1) := by decide +kernel
theorem dX8_clear_1 : decode cX8_clear 1 = .ok (.iconst 0, 1) := by decide +kernel
theorem dX8_clear_2 : decode cX8_clear 2 = .ok (.putfield 27, 3) := by decide +kernel
theorem dX8_clear_5 : decode cX8_clear 5 = .ok (.aload_n 0, 1) := by decide +kernel
theorem dX8_clear_6 : decode cX8_clear 6 = .ok (.iconst 0, 1) := by decide +kernel
theorem dX8_clear_7 : decode cX8_clear 7 = .ok (.putfield 31, 3) := by decide +kernel
theorem dX8_clear_10 : decode cX8_clear 10 = .ok (.aload_n 0, 1) := by decide +kernel
theorem dX8_clear_11 : decode cX8_clear 11 = .ok (.iconst 0, 1) := by decide +kernel
theorem dX8_clear_12 : decode cX8_clear 12 = .ok (.putfield 35, 3) := by decide +kernel
theorem dX8_clear_15 : decode cX8_clear 15 = .ok (.aload_n 0, 1) := by decide +kernel
theorem dX8_clear_16 : decode cX8_clear 16 = .ok (.iconst 0, 1) := by decide +kernel
theorem dX8_clear_17 : decode cX8_clear 17 = .ok (.putfield 38, 3) := by decide +kernel
theorem dX8_clear_20 : decode cX8_clear 20 = .ok (.aload_n 0, 1) := by decide +kernel
theorem dX8_clear_21 : decode cX8_clear 21 = .ok (.iconst 0, 1) := by decide +kernel
theorem dX8_clear_22 : decode cX8_clear 22 = .ok (.putfield 41, 3) := by decide +kernel
theorem dX8_clear_25 : decode cX8_clear 25 = .ok (.aload_n 0, 1) := by decide +kernel
theorem dX8_clear_26 : decode cX8_clear 26 = .ok (.getfield 21, 3) := by decide +kernel
theorem dX8_clear_29 : decode cX8_clear 29 = .ok (.iconst 0, 1) := by decide +kernel
theorem dX8_clear_30 : decode cX8_clear 30 = .ok (.invokestatic 44, 3) := by decide +kernel
theorem dX8_clear_33 : decode cX8_clear 33 = .ok (.aload_n 0, 1) := by decide +kernel
theorem dX8_clear_34 : decode cX8_clear 34 = .ok (.getfield 24, 3) := by decide +kernel
theorem dX8_clear_37 : decode cX8_clear 37 = .ok (.iconst 0, 1) := by decide +kernel
theorem dX8_clear_38 : decode cX8_clear 38 = .ok (.invokestatic 44, 3) := by decide +kernel
theorem dX8_clear_41 : decode cX8_clear 41 = .ok (.return_, 1) := by decide +kernel
theorem dX8_copyFrom_0 : decode cX8_copyFrom 0 = .ok (.aload_n 0, 1) := by decide +kernel
theorem dX8_copyFrom_1 : decode cX8_copyFrom 1 = .ok (.aload_n 1, 1) := by decide +kernel
theorem dX8_copyFrom_2 : decode cX8_copyFrom 2 = .ok (.getfield 27, 3) := by decide +kernel
theorem dX8_copyFrom_5 : decode cX8_copyFrom 5 = .ok (.putfield 27, 3) := by decide +kernel
theorem dX8_copyFrom_8 : decode cX8_copyFrom 8 = .ok (.aload_n 0, 1) := by decide +kernel
theorem dX8_copyFrom_9 : decode cX8_copyFrom 9 = .ok (.aload_n 1, 1) := by decide +kernel
theorem dX8_copyFrom_10 : decode cX8_copyFrom 10 = .ok (.getfield 31, 3) := by decide +kernel
theorem dX8_copyFrom_13 : decode cX8_copyFrom 13 = .ok (.putfield 31, 3) := by decide +kernel
theorem dX8_copyFrom_16 : decode cX8_copyFrom 16 = .ok (.aload_n 0, 1) := by decide +kernel
theorem dX8_copyFrom_17 : decode cX8_copyFrom 17 = .ok (.aload_n 1, 1) := by decide +kernel
theorem dX8_copyFrom_18 : decode cX8_copyFrom 18 = .ok (.getfield 35, 3) := by decide +kernel
theorem dX8_copyFrom_21 : decode cX8_copyFrom 21 = .ok (.putfield 35, 3) := by decide +kernel
theorem dX8_copyFrom_24 : decode cX8_copyFrom 24 = .ok (.aload_n 0, 1) := by decide +kernel
theorem dX8_copyFrom_25 : decode cX8_copyFrom 25 = .ok (.aload_n 1, 1) := by decide +kernel
theorem dX8_copyFrom_26 : decode cX8_copyFrom 26 = .ok (.getfield 38, 3) := by decide +kernel
theorem dX8_copyFrom_29 : decode cX8_copyFrom 29 = .ok (.putfield 38, 3) := by decide +kernel
theorem dX8_copyFrom_32 : decode cX8_copyFrom 32 = .ok (.aload_n 0, 1) := by decide +kernel
theorem dX8_copyFrom_33 : decode cX8_copyFrom 33 = .ok (.aload_n 1, 1) := by decide +kernel
theorem dX8_copyFrom_34 : decode cX8_copyFrom 34 = .ok (.getfield 41, 3) := by decide +kernel
theorem dX8_copyFrom_37 : decode cX8_copyFrom 37 = .ok (.putfield 41, 3) := by decide +kernel
theorem dX8_copyFrom_40 : decode cX8_copyFrom 40 = .ok (.aload_n 1, 1) := by decide +kernel
theorem dX8_copyFrom_41 : decode cX8_copyFrom 41 = .ok (.getfield 9, 3) := by decide +kernel
theorem dX8_copyFrom_44 : decode cX8_copyFrom 44 = .ok (.iconst 0, 1) := by decide +kernel
theorem dX8_copyFrom_45 : decode cX8_copyFrom 45 = .ok (.aload_n 0, 1) := by decide +kernel
theorem dX8_copyFrom_46 : decode cX8_copyFrom 46 = .ok (.getfield 9, 3) := by decide +kernel
theorem dX8_copyFrom_49 : decode cX8_copyFrom 49 = .ok (.iconst 0, 1) := by decide +kernel
theorem dX8_copyFrom_50 : decode cX8_copyFrom 50 = .ok (.aload_n 0, 1) := by decide +kernel
theorem dX8_copyFrom_51 : decode cX8_copyFrom 51 = .ok (.getfield 9, 3) := by decide +kernel
theorem dX8_copyFrom_54 : decode cX8_copyFrom 54 = .ok (.arraylength, 1) := by decide +kernel
theorem dX8_copyFrom_55 : decode cX8_copyFrom 55 = .ok (.invokestatic 50, 3) := by decide +kernel
theorem dX8_copyFrom_58 : decode cX8_copyFrom 58 = .ok (.aload_n 1, 1) := by decide +kernel
theorem dX8_copyFrom_59 : decode cX8_copyFrom 59 = .ok (.getfield 15, 3) := by decide +kernel
theorem dX8_copyFrom_62 : decode cX8_copyFrom 62 = .ok (.iconst 0, 1) := by decide +kernel
theorem dX8_copyFrom_63 : decode cX8_copyFrom 63 = .ok (.aload_n 0, 1) := by decide +kernel
theorem dX8_copyFrom_64 : decode cX8_copyFrom 64 = .ok (.getfield 15, 3) := by decide +kernel
theorem dX8_copyFrom_67 : decode cX8_copyFrom 67 = .ok (.iconst 0, 1) := by decide +kernel
theorem dX8_copyFrom_68 : decode cX8_copyFrom 68 = .ok (.iconst 5, 1) := by decide +kernel
theorem dX8_copyFrom_69 : decode cX8_copyFrom 69 = .ok (.invokestatic 50, 3) := by decide +kernel
theorem dX8_copyFrom_72 : decode cX8_copyFrom 72 = .ok (.aload_n 1, 1) := by decide +kernel
theorem dX8_copyFrom_73 : decode cX8_copyFrom 73 = .ok (.getfield 18, 3) := by decide +kernel
theorem dX8_copyFrom_76 : decode cX8_copyFrom 76 = .ok (.iconst 0, 1) := by decide +kernel
theorem dX8_copyFrom_77 : decode cX8_copyFrom 77 = .ok (.aload_n 0, 1) := by decide +kernel
theorem dX8_copyFrom_78 : decode cX8_copyFrom 78 = .ok (.getfield 18, 3) := by decide +kernel
theorem dX8_copyFrom_81 : decode cX8_copyFrom 81 = .ok (.iconst 0, 1) := by decide +kernel
theorem dX8_copyFrom_82 : decode cX8_copyFrom 82 = .ok (.iconst 5, 1) := by decide +kernel
theorem dX8_copyFrom_83 : decode cX8_copyFrom 83 = .ok (.invokestatic 50, 3) := by decide +kernel
theorem dX8_copyFrom_86 : decode cX8_copyFrom 86 = .ok (.aload_n 1, 1) := by decide +kernel
theorem dX8_copyFrom_87 : decode cX8_copyFrom 87 = .ok (.getfield 21, 3) := by decide +kernel
theorem dX8_copyFrom_90 : decode cX8_copyFrom 90 = .ok (.iconst 0, 1) := by decide +kernel
theorem dX8_copyFrom_91 : decode cX8_copyFrom 91 = .ok (.aload_n 0, 1) := by decide +kernel
theorem dX8_copyFrom_92 : decode cX8_copyFrom 92 = .ok (.getfield 21, 3) := by decide +kernel
theorem dX8_copyFrom_95 : decode cX8_copyFrom 95 = .ok (.iconst 0, 1) := by decide +kernel
theorem dX8_copyFrom_96 : decode cX8_copyFrom 96 = .ok (.iconst 5, 1) := by decide +kernel
theorem dX8_copyFrom_97 : decode cX8_copyFrom 97 = .ok (.invokestatic 50, 3) := by decide +kernel
theorem dX8_copyFrom_100 : decode cX8_copyFrom 100 = .ok (.aload_n 1, 1) := by decide +kernel
theorem dX8_copyFrom_101 : decode cX8_copyFrom 101 = .ok (.getfield 24, 3) := by decide +kernel
theorem dX8_copyFrom_104 : decode cX8_copyFrom 104 = .ok (.iconst 0, 1) := by decide +kernel
theorem dX8_copyFrom_105 : decode cX8_copyFrom 105 = .ok (.aload_n 0, 1) := by decide +kernel
theorem dX8_copyFrom_106 : decode cX8_copyFrom 106 = .ok (.getfield 24, 3) := by decide +kernel
theorem dX8_copyFrom_109 : decode cX8_copyFrom 109 = .ok (.iconst 0, 1) := by decide +kernel
theorem dX8_copyFrom_110 : decode cX8_copyFrom 110 = .ok (.aload_n 0, 1) := by decide +kernel
theorem dX8_copyFrom_111 : decode cX8_copyFrom 111 = .ok (.getfield 24, 3) := by decide +kernel
theorem dX8_copyFrom_114 : decode cX8_copyFrom 114 = .ok (.arraylength, 1) := by decide +kernel
theorem dX8_copyFrom_115 : decode cX8_copyFrom 115 = .ok (.invokestatic 50, 3) := by decide +kernel
theorem dX8_copyFrom_118 : decode cX8_copyFrom 118 = .ok (.return_, 1) := by decide +kernel
theorem dX8_addJoke_0 : decode cX8_addJoke 0 = .ok (.aload_n 0, 1) := by decide +kernel
theorem dX8_addJoke_1 : decode cX8_addJoke 1 = .ok (.getfield 38, 3) := by decide +kernel
theorem dX8_addJoke_4 : decode cX8_addJoke 4 = .ok (.istore 4, 2) := by decide +kernel
theorem dX8_addJoke_6 : decode cX8_addJoke 6 = .ok (.aload_n 0, 1) := by decide +kernel
theorem dX8_addJoke_7 : decode cX8_addJoke 7 = .ok (.getfield 9, 3) := by decide +kernel
theorem dX8_addJoke_10 : decode cX8_addJoke 10 = .ok (.iconst 3, 1) := by decide +kernel
theorem dX8_addJoke_11 : decode cX8_addJoke 11 = .ok (.iload 4, 2) := by decide +kernel
theorem dX8_addJoke_13 : decode cX8_addJoke 13 = .ok (.imul, 1) := by decide +kernel
theorem dX8_addJoke_14 : decode cX8_addJoke 14 = .ok (.iload_n 1, 1) := by decide +kernel
theorem dX8_addJoke_15 : decode cX8_addJoke 15 = .ok (.iastore, 1) := by decide +kernel
theorem dX8_addJoke_16 : decode cX8_addJoke 16 = .ok (.aload_n 0, 1) := by decide +kernel
theorem dX8_addJoke_17 : decode cX8_addJoke 17 = .ok (.getfield 9, 3) := by decide +kernel
theorem dX8_addJoke_20 : decode cX8_addJoke 20 = .ok (.iconst 3, 1) := by decide +kernel
theorem dX8_addJoke_21 : decode cX8_addJoke 21 = .ok (.iload 4, 2) := by decide +kernel
theorem dX8_addJoke_23 : decode cX8_addJoke 23 = .ok (.imul, 1) := by decide +kernel
theorem dX8_addJoke_24 : decode cX8_addJoke 24 = .ok (.iconst 1, 1) := by decide +kernel
theorem dX8_addJoke_25 : decode cX8_addJoke 25 = .ok (.iadd, 1) := by decide +kernel
theorem dX8_addJoke_26 : decode cX8_addJoke 26 = .ok (.iload_n 2, 1) := by decide +kernel
theorem dX8_addJoke_27 : decode cX8_addJoke 27 = .ok (.iastore, 1) := by decide +kernel
theorem dX8_addJoke_28 : decode cX8_addJoke 28 = .ok (.aload_n 0, 1) := by decide +kernel
theorem dX8_addJoke_29 : decode cX8_addJoke 29 = .ok (.getfield 9, 3) := by decide +kernel
theorem dX8_addJoke_32 : decode cX8_addJoke 32 = .ok (.iconst 3, 1) := by decide +kernel
theorem dX8_addJoke_33 : decode cX8_addJoke 33 = .ok (.iload 4, 2) := by decide +kernel
theorem dX8_addJoke_35 : decode cX8_addJoke 35 = .ok (.imul, 1) := by decide +kernel
theorem dX8_addJoke_36 : decode cX8_addJoke 36 = .ok (.iconst 2, 1) := by decide +kernel
theorem dX8_addJoke_37 : decode cX8_addJoke 37 = .ok (.iadd, 1) := by decide +kernel
theorem dX8_addJoke_38 : decode cX8_addJoke 38 = .ok (.iload_n 3, 1) := by decide +kernel
theorem dX8_addJoke_39 : decode cX8_addJoke 39 = .ok (.iastore, 1) := by decide +kernel
theorem dX8_addJoke_40 : decode cX8_addJoke 40 = .ok (.aload_n 0, 1) := by decide +kernel
theorem dX8_addJoke_41 : decode cX8_addJoke 41 = .ok (.dup, 1) := by decide +kernel
theorem dX8_addJoke_42 : decode cX8_addJoke 42 = .ok (.getfield 38, 3) := by decide +kernel
theorem dX8_addJoke_45 : decode cX8_addJoke 45 = .ok (.iconst 1, 1) := by decide +kernel
theorem dX8_addJoke_46 : decode cX8_addJoke 46 = .ok (.iadd, 1) := by decide +kernel
theorem dX8_addJoke_47 : decode cX8_addJoke 47 = .ok (.putfield 38, 3) := by decide +kernel
theorem dX8_addJoke_50 : decode cX8_addJoke 50 = .ok (.iconst 0, 1) := by decide +kernel
theorem dX8_addJoke_51 : decode cX8_addJoke 51 = .ok (.istore 5, 2) := by decide +kernel
theorem dX8_addJoke_53 : decode cX8_addJoke 53 = .ok (.iload 5, 2) := by decide +kernel
theorem dX8_addJoke_55 : decode cX8_addJoke 55 = .ok (.aload_n 0, 1) := by decide +kernel
theorem dX8_addJoke_56 : decode cX8_addJoke 56 = .ok (.getfield 38, 3) := by decide +kernel
theorem dX8_addJoke_59 : decode cX8_addJoke 59 = .ok (.if_icmp .ge 75, 3) := by decide +kernel
theorem dX8_addJoke_62 : decode cX8_addJoke 62 = .ok (.aload_n 0, 1) := by decide +kernel
theorem dX8_addJoke_63 : decode cX8_addJoke 63 = .ok (.iload 5, 2) := by decide +kernel
theorem dX8_addJoke_65 : decode cX8_addJoke 65 = .ok (.iload 4, 2) := by decide +kernel
theorem dX8_addJoke_67 : decode cX8_addJoke 67 = .ok (.invokevirtual 56, 3) := by decide +kernel
theorem dX8_addJoke_70 : decode cX8_addJoke 70 = .ok (.istore 6, 2) := by decide +kernel
theorem dX8_addJoke_72 : decode cX8_addJoke 72 = .ok (.iconst 1, 1) := by decide +kernel
theorem dX8_addJoke_73 : decode cX8_addJoke 73 = .ok (.istore 7, 2) := by decide +kernel
theorem dX8_addJoke_75 : decode cX8_addJoke 75 = .ok (.iload 7, 2) := by decide +kernel
theorem dX8_addJoke_77 : decode cX8_addJoke 77 = .ok (.iload 6, 2) := by decide +kernel
theorem dX8_addJoke_79 : decode cX8_addJoke 79 = .ok (.if_icmp .gt 49, 3) := by decide +kernel
theorem dX8_addJoke_82 : decode cX8_addJoke 82 = .ok (.aload_n 0, 1) := by decide +kernel
theorem dX8_addJoke_83 : decode cX8_addJoke 83 = .ok (.getfield 24, 3) := by decide +kernel
theorem dX8_addJoke_86 : decode cX8_addJoke 86 = .ok (.bipush 8, 2) := by decide +kernel
theorem dX8_addJoke_88 : decode cX8_addJoke 88 = .ok (.iload 7, 2) := by decide +kernel
theorem dX8_addJoke_90 : decode cX8_addJoke 90 = .ok (.imul, 1) := by decide +kernel
theorem dX8_addJoke_91 : decode cX8_addJoke 91 = .ok (.iload 5, 2) := by decide +kernel
theorem dX8_addJoke_93 : decode cX8_addJoke 93 = .ok (.iadd, 1) := by decide +kernel
theorem dX8_addJoke_94 : decode cX8_addJoke 94 = .ok (.dup2, 1) := by decide +kernel
theorem dX8_addJoke_95 : decode cX8_addJoke 95 = .ok (.iaload, 1) := by decide +kernel
theorem dX8_addJoke_96 : decode cX8_addJoke 96 = .ok (.iconst 1, 1) := by decide +kernel
theorem dX8_addJoke_97 : decode cX8_addJoke 97 = .ok (.iload 4, 2) := by decide +kernel
theorem dX8_addJoke_99 : decode cX8_addJoke 99 = .ok (.ishl, 1) := by decide +kernel
theorem dX8_addJoke_100 : decode cX8_addJoke 100 = .ok (.ior, 1) := by decide +kernel
theorem dX8_addJoke_101 : decode cX8_addJoke 101 = .ok (.iastore, 1) := by decide +kernel
theorem dX8_addJoke_102 : decode cX8_addJoke 102 = .ok (.aload_n 0, 1) := by decide +kernel
theorem dX8_addJoke_103 : decode cX8_addJoke 103 = .ok (.getfield 24, 3) := by decide +kernel
theorem dX8_addJoke_106 : decode cX8_addJoke 106 = .ok (.bipush 8, 2) := by decide +kernel
theorem dX8_addJoke_108 : decode cX8_addJoke 108 = .ok (.iload 7, 2) := by decide +kernel
theorem dX8_addJoke_110 : decode cX8_addJoke 110 = .ok (.imul, 1) := by decide +kernel
theorem dX8_addJoke_111 : decode cX8_addJoke 111 = .ok (.iload 4, 2) := by decide +kernel
theorem dX8_addJoke_113 : decode cX8_addJoke 113 = .ok (.iadd, 1) := by decide +kernel
theorem dX8_addJoke_114 : decode cX8_addJoke 114 = .ok (.dup2, 1) := by decide +kernel
theorem dX8_addJoke_115 : decode cX8_addJoke 115 = .ok (.iaload, 1) := by decide +kernel
theorem dX8_addJoke_116 : decode cX8_addJoke 116 = .ok (.iconst 1, 1) := by decide +kernel
theorem dX8_addJoke_117 : decode cX8_addJoke 117 = .ok (.iload 5, 2) := by decide +kernel
theorem dX8_addJoke_119 : decode cX8_addJoke 119 = .ok (.ishl, 1) := by decide +kernel
theorem dX8_addJoke_120 : decode cX8_addJoke 120 = .ok (.ior, 1) := by decide +kernel
theorem dX8_addJoke_121 : decode cX8_addJoke 121 = .ok (.iastore, 1) := by decide +kernel
theorem dX8_addJoke_122 : decode cX8_addJoke 122 = .ok (.iinc 7 1, 3) := by decide +kernel
theorem dX8_addJoke_125 : decode cX8_addJoke 125 = .ok (.goto (-50), 3) := by decide +kernel
theorem dX8_addJoke_128 : decode cX8_addJoke 128 = .ok (.iinc 5 1, 3) := by decide +kernel
theorem dX8_addJoke_131 : decode cX8_addJoke 131 = .ok (.goto (-78), 3) := by decide +kernel
theorem dX8_addJoke_134 : decode cX8_addJoke 134 = .ok (.return_, 1) := by decide +kernel
theorem dX8_addShip_0 : decode cX8_addShip 0 = .ok (.aload_n 0, 1) := by decide +kernel
theorem dX8_addShip_1 : decode cX8_addShip 1 = .ok (.getfield 15, 3) := by decide +kernel
theorem dX8_addShip_4 : decode cX8_addShip 4 = .ok (.aload_n 0, 1) := by decide +kernel
theorem dX8_addShip_5 : decode cX8_addShip 5 = .ok (.getfield 41, 3) := by decide +kernel
theorem dX8_addShip_8 : decode cX8_addShip 8 = .ok (.iload_n 1, 1) := by decide +kernel
theorem dX8_addShip_9 : decode cX8_addShip 9 = .ok (.iastore, 1) := by decide +kernel
theorem dX8_addShip_10 : decode cX8_addShip 10 = .ok (.aload_n 0, 1) := by decide +kernel
theorem dX8_addShip_11 : decode cX8_addShip 11 = .ok (.getfield 18, 3) := by decide +kernel
theorem dX8_addShip_14 : decode cX8_addShip 14 = .ok (.aload_n 0, 1) := by decide +kernel
theorem dX8_addShip_15 : decode cX8_addShip 15 = .ok (.getfield 41, 3) := by decide +kernel
theorem dX8_addShip_18 : decode cX8_addShip 18 = .ok (.iload_n 2, 1) := by decide +kernel
theorem dX8_addShip_19 : decode cX8_addShip 19 = .ok (.iastore, 1) := by decide +kernel
theorem dX8_addShip_20 : decode cX8_addShip 20 = .ok (.aload_n 0, 1) := by decide +kernel
theorem dX8_addShip_21 : decode cX8_addShip 21 = .ok (.dup, 1) := by decide +kernel
theorem dX8_addShip_22 : decode cX8_addShip 22 = .ok (.getfield 41, 3) := by decide +kernel
theorem dX8_addShip_25 : decode cX8_addShip 25 = .ok (.iconst 1, 1) := by decide +kernel
theorem dX8_addShip_26 : decode cX8_addShip 26 = .ok (.iadd, 1) := by decide +kernel
theorem dX8_addShip_27 : decode cX8_addShip 27 = .ok (.putfield 41, 3) := by decide +kernel
theorem dX8_addShip_30 : decode cX8_addShip 30 = .ok (.return_, 1) := by decide +kernel
theorem dX8_partsAlike_0 : decode cX8_partsAlike 0 = .ok (.aload_n 0, 1) := by decide +kernel
theorem dX8_partsAlike_1 : decode cX8_partsAlike 1 = .ok (.iload_n 1, 1) := by decide +kernel
theorem dX8_partsAlike_2 : decode cX8_partsAlike 2 = .ok (.aload_n 0, 1) := by decide +kernel
theorem dX8_partsAlike_3 : decode cX8_partsAlike 3 = .ok (.getfield 9, 3) := by decide +kernel
theorem dX8_partsAlike_6 : decode cX8_partsAlike 6 = .ok (.iconst 3, 1) := by decide +kernel
theorem dX8_partsAlike_7 : decode cX8_partsAlike 7 = .ok (.iload_n 2, 1) := by decide +kernel
theorem dX8_partsAlike_8 : decode cX8_partsAlike 8 = .ok (.imul, 1) := by decide +kernel
theorem dX8_partsAlike_9 : decode cX8_partsAlike 9 = .ok (.iaload, 1) := by decide +kernel
theorem dX8_partsAlike_10 : decode cX8_partsAlike 10 = .ok (.aload_n 0, 1) := by decide +kernel
theorem dX8_partsAlike_11 : decode cX8_partsAlike 11 = .ok (.getfield 9, 3) := by decide +kernel
theorem dX8_partsAlike_14 : decode cX8_partsAlike 14 = .ok (.iconst 3, 1) := by decide +kernel
theorem dX8_partsAlike_15 : decode cX8_partsAlike 15 = .ok (.iload_n 2, 1) := by decide +kernel
theorem dX8_partsAlike_16 : decode cX8_partsAlike 16 = .ok (.imul, 1) := by decide +kernel
theorem dX8_partsAlike_17 : decode cX8_partsAlike 17 = .ok (.iconst 1, 1) := by decide +kernel
theorem dX8_partsAlike_18 : decode cX8_partsAlike 18 = .ok (.iadd, 1) := by decide +kernel
theorem dX8_partsAlike_19 : decode cX8_partsAlike 19 = .ok (.iaload, 1) := by decide +kernel
theorem dX8_partsAlike_20 : decode cX8_partsAlike 20 = .ok (.aload_n 0, 1) := by decide +kernel
theorem dX8_partsAlike_21 : decode cX8_partsAlike 21 = .ok (.getfield 9, 3) := by decide +kernel
theorem dX8_partsAlike_24 : decode cX8_partsAlike 24 = .ok (.iconst 3, 1) := by decide +kernel
theorem dX8_partsAlike_25 : decode cX8_partsAlike 25 = .ok (.iload_n 2, 1) := by decide +kernel
theorem dX8_partsAlike_26 : decode cX8_partsAlike 26 = .ok (.imul, 1) := by decide +kernel
theorem dX8_partsAlike_27 : decode cX8_partsAlike 27 = .ok (.iconst 2, 1) := by decide +kernel
theorem dX8_partsAlike_28 : decode cX8_partsAlike 28 = .ok (.iadd, 1) := by decide +kernel
theorem dX8_partsAlike_29 : decode cX8_partsAlike 29 = .ok (.iaload, 1) := by decide +kernel
theorem dX8_partsAlike_30 : decode cX8_partsAlike 30 = .ok (.invokevirtual 60, 3) := by decide +kernel
theorem dX8_partsAlike_33 : decode cX8_partsAlike 33 = .ok (.ireturn, 1) := by decide +kernel
theorem dX8_countAlike_0 : decode cX8_countAlike 0 = .ok (.aload_n 0, 1) := by decide +kernel
theorem dX8_countAlike_1 : decode cX8_countAlike 1 = .ok (.getfield 9, 3) := by decide +kernel
theorem dX8_countAlike_4 : decode cX8_countAlike 4 = .ok (.iconst 3, 1) := by decide +kernel
theorem dX8_countAlike_5 : decode cX8_countAlike 5 = .ok (.iload_n 1, 1) := by decide +kernel
theorem dX8_countAlike_6 : decode cX8_countAlike 6 = .ok (.imul, 1) := by decide +kernel
theorem dX8_countAlike_7 : decode cX8_countAlike 7 = .ok (.iaload, 1) := by decide +kernel
theorem dX8_countAlike_8 : decode cX8_countAlike 8 = .ok (.iload_n 2, 1) := by decide +kernel
theorem dX8_countAlike_9 : decode cX8_countAlike 9 = .ok (.if_icmp .ne 7, 3) := by decide +kernel
theorem dX8_countAlike_12 : decode cX8_countAlike 12 = .ok (.iconst 1, 1) := by decide +kernel
theorem dX8_countAlike_13 : decode cX8_countAlike 13 = .ok (.goto 4, 3) := by decide +kernel
theorem dX8_countAlike_16 : decode cX8_countAlike 16 = .ok (.iconst 0, 1) := by decide +kernel
theorem dX8_countAlike_17 : decode cX8_countAlike 17 = .ok (.aload_n 0, 1) := by decide +kernel
theorem dX8_countAlike_18 : decode cX8_countAlike 18 = .ok (.getfield 9, 3) := by decide +kernel
theorem dX8_countAlike_21 : decode cX8_countAlike 21 = .ok (.iconst 3, 1) := by decide +kernel
theorem dX8_countAlike_22 : decode cX8_countAlike 22 = .ok (.iload_n 1, 1) := by decide +kernel
theorem dX8_countAlike_23 : decode cX8_countAlike 23 = .ok (.imul, 1) := by decide +kernel
theorem dX8_countAlike_24 : decode cX8_countAlike 24 = .ok (.iconst 1, 1) := by decide +kernel
theorem dX8_countAlike_25 : decode cX8_countAlike 25 = .ok (.iadd, 1) := by decide +kernel
theorem dX8_countAlike_26 : decode cX8_countAlike 26 = .ok (.iaload, 1) := by decide +kernel
theorem dX8_countAlike_27 : decode cX8_countAlike 27 = .ok (.iload_n 3, 1) := by decide +kernel
theorem dX8_countAlike_28 : decode cX8_countAlike 28 = .ok (.if_icmp .ne 7, 3) := by decide +kernel
theorem dX8_countAlike_31 : decode cX8_countAlike 31 = .ok (.iconst 1, 1) := by decide +kernel
theorem dX8_countAlike_32 : decode cX8_countAlike 32 = .ok (.goto 4, 3) := by decide +kernel
theorem dX8_countAlike_35 : decode cX8_countAlike 35 = .ok (.iconst 0, 1) := by decide +kernel
theorem dX8_countAlike_36 : decode cX8_countAlike 36 = .ok (.iadd, 1) := by decide +kernel
theorem dX8_countAlike_37 : decode cX8_countAlike 37 = .ok (.aload_n 0, 1) := by decide +kernel
theorem dX8_countAlike_38 : decode cX8_countAlike 38 = .ok (.getfield 9, 3) := by decide +kernel
theorem dX8_countAlike_41 : decode cX8_countAlike 41 = .ok (.iconst 3, 1) := by decide +kernel
theorem dX8_countAlike_42 : decode cX8_countAlike 42 = .ok (.iload_n 1, 1) := by decide +kernel
theorem dX8_countAlike_43 : decode cX8_countAlike 43 = .ok (.imul, 1) := by decide +kernel
theorem dX8_countAlike_44 : decode cX8_countAlike 44 = .ok (.iconst 2, 1) := by decide +kernel
theorem dX8_countAlike_45 : decode cX8_countAlike 45 = .ok (.iadd, 1) := by decide +kernel
theorem dX8_countAlike_46 : decode cX8_countAlike 46 = .ok (.iaload, 1) := by decide +kernel
theorem dX8_countAlike_47 : decode cX8_countAlike 47 = .ok (.iload 4, 2) := by decide +kernel
theorem dX8_countAlike_49 : decode cX8_countAlike 49 = .ok (.if_icmp .ne 7, 3) := by decide +kernel
theorem dX8_countAlike_52 : decode cX8_countAlike 52 = .ok (.iconst 1, 1) := by decide +kernel
theorem dX8_countAlike_53 : decode cX8_countAlike 53 = .ok (.goto 4, 3) := by decide +kernel
theorem dX8_countAlike_56 : decode cX8_countAlike 56 = .ok (.iconst 0, 1) := by decide +kernel
theorem dX8_countAlike_57 : decode cX8_countAlike 57 = .ok (.iadd, 1) := by decide +kernel
theorem dX8_countAlike_58 : decode cX8_countAlike 58 = .ok (.ireturn, 1) := by decide +kernel
theorem dX8_isNew_0 : decode cX8_isNew 0 = .ok (.aload_n 0, 1) := by decide +kernel
theorem dX8_isNew_1 : decode cX8_isNew 1 = .ok (.getfield 24, 3) := by decide +kernel
theorem dX8_isNew_4 : decode cX8_isNew 4 = .ok (.bipush 8, 2) := by decide +kernel
theorem dX8_isNew_6 : decode cX8_isNew 6 = .ok (.aload_n 0, 1) := by decide +kernel
theorem dX8_isNew_7 : decode cX8_isNew 7 = .ok (.getfield 35, 3) := by decide +kernel
theorem dX8_isNew_10 : decode cX8_isNew 10 = .ok (.imul, 1) := by decide +kernel
theorem dX8_isNew_11 : decode cX8_isNew 11 = .ok (.iload_n 1, 1) := by decide +kernel
theorem dX8_isNew_12 : decode cX8_isNew 12 = .ok (.iadd, 1) := by decide +kernel
theorem dX8_isNew_13 : decode cX8_isNew 13 = .ok (.iaload, 1) := by decide +kernel
theorem dX8_isNew_14 : decode cX8_isNew 14 = .ok (.iload_n 2, 1) := by decide +kernel
theorem dX8_isNew_15 : decode cX8_isNew 15 = .ok (.iand, 1) := by decide +kernel
theorem dX8_isNew_16 : decode cX8_isNew 16 = .ok (.ifCond .ne 7, 3) := by decide +kernel
theorem dX8_isNew_19 : decode cX8_isNew 19 = .ok (.iconst 1, 1) := by decide +kernel
theorem dX8_isNew_20 : decode cX8_isNew 20 = .ok (.goto 4, 3) := by decide +kernel
theorem dX8_isNew_23 : decode cX8_isNew 23 = .ok (.iconst 0, 1) := by decide +kernel
theorem dX8_isNew_24 : decode cX8_isNew 24 = .ok (.ireturn, 1) := by decide +kernel
theorem dX8_newOnes_0 : decode cX8_newOnes 0 = .ok (.iconst 0, 1) := by decide +kernel
theorem dX8_newOnes_1 : decode cX8_newOnes 1 = .ok (.istore_n 2, 1) := by decide +kernel
theorem dX8_newOnes_2 : decode cX8_newOnes 2 = .ok (.iconst 0, 1) := by decide +kernel
theorem dX8_newOnes_3 : decode cX8_newOnes 3 = .ok (.istore_n 3, 1) := by decide +kernel
theorem dX8_newOnes_4 : decode cX8_newOnes 4 = .ok (.iload_n 3, 1) := by decide +kernel
theorem dX8_newOnes_5 : decode cX8_newOnes 5 = .ok (.aload_n 0, 1) := by decide +kernel
theorem dX8_newOnes_6 : decode cX8_newOnes 6 = .ok (.getfield 38, 3) := by decide +kernel
theorem dX8_newOnes_9 : decode cX8_newOnes 9 = .ok (.if_icmp .ge 24, 3) := by decide +kernel
theorem dX8_newOnes_12 : decode cX8_newOnes 12 = .ok (.aload_n 0, 1) := by decide +kernel
theorem dX8_newOnes_13 : decode cX8_newOnes 13 = .ok (.iload_n 3, 1) := by decide +kernel
theorem dX8_newOnes_14 : decode cX8_newOnes 14 = .ok (.iload_n 1, 1) := by decide +kernel
theorem dX8_newOnes_15 : decode cX8_newOnes 15 = .ok (.invokevirtual 64, 3) := by decide +kernel
theorem dX8_newOnes_18 : decode cX8_newOnes 18 = .ok (.ifCond .eq 9, 3) := by decide +kernel
theorem dX8_newOnes_21 : decode cX8_newOnes 21 = .ok (.iload_n 2, 1) := by decide +kernel
theorem dX8_newOnes_22 : decode cX8_newOnes 22 = .ok (.iconst 1, 1) := by decide +kernel
theorem dX8_newOnes_23 : decode cX8_newOnes 23 = .ok (.iload_n 3, 1) := by decide +kernel
theorem dX8_newOnes_24 : decode cX8_newOnes 24 = .ok (.ishl, 1) := by decide +kernel
theorem dX8_newOnes_25 : decode cX8_newOnes 25 = .ok (.ior, 1) := by decide +kernel
theorem dX8_newOnes_26 : decode cX8_newOnes 26 = .ok (.istore_n 2, 1) := by decide +kernel
theorem dX8_newOnes_27 : decode cX8_newOnes 27 = .ok (.iinc 3 1, 3) := by decide +kernel
theorem dX8_newOnes_30 : decode cX8_newOnes 30 = .ok (.goto (-26), 3) := by decide +kernel
theorem dX8_newOnes_33 : decode cX8_newOnes 33 = .ok (.iload_n 2, 1) := by decide +kernel
theorem dX8_newOnes_34 : decode cX8_newOnes 34 = .ok (.ireturn, 1) := by decide +kernel
theorem dX8_mostAlike_0 : decode cX8_mostAlike 0 = .ok (.aload_n 0, 1) := by decide +kernel
theorem dX8_mostAlike_1 : decode cX8_mostAlike 1 = .ok (.getfield 24, 3) := by decide +kernel
theorem dX8_mostAlike_4 : decode cX8_mostAlike 4 = .ok (.bipush 24, 2) := by decide +kernel
theorem dX8_mostAlike_6 : decode cX8_mostAlike 6 = .ok (.iload_n 1, 1) := by decide +kernel
theorem dX8_mostAlike_7 : decode cX8_mostAlike 7 = .ok (.iadd, 1) := by decide +kernel
theorem dX8_mostAlike_8 : decode cX8_mostAlike 8 = .ok (.iaload, 1) := by decide +kernel
theorem dX8_mostAlike_9 : decode cX8_mostAlike 9 = .ok (.iload_n 2, 1) := by decide +kernel
theorem dX8_mostAlike_10 : decode cX8_mostAlike 10 = .ok (.iand, 1) := by decide +kernel
theorem dX8_mostAlike_11 : decode cX8_mostAlike 11 = .ok (.ifCond .eq 5, 3) := by decide +kernel
theorem dX8_mostAlike_14 : decode cX8_mostAlike 14 = .ok (.iconst 3, 1) := by decide +kernel
theorem dX8_mostAlike_15 : decode cX8_mostAlike 15 = .ok (.ireturn, 1) := by decide +kernel
theorem dX8_mostAlike_16 : decode cX8_mostAlike 16 = .ok (.aload_n 0, 1) := by decide +kernel
theorem dX8_mostAlike_17 : decode cX8_mostAlike 17 = .ok (.getfield 24, 3) := by decide +kernel
theorem dX8_mostAlike_20 : decode cX8_mostAlike 20 = .ok (.bipush 16, 2) := by decide +kernel
theorem dX8_mostAlike_22 : decode cX8_mostAlike 22 = .ok (.iload_n 1, 1) := by decide +kernel
theorem dX8_mostAlike_23 : decode cX8_mostAlike 23 = .ok (.iadd, 1) := by decide +kernel
theorem dX8_mostAlike_24 : decode cX8_mostAlike 24 = .ok (.iaload, 1) := by decide +kernel
theorem dX8_mostAlike_25 : decode cX8_mostAlike 25 = .ok (.iload_n 2, 1) := by decide +kernel
theorem dX8_mostAlike_26 : decode cX8_mostAlike 26 = .ok (.iand, 1) := by decide +kernel
theorem dX8_mostAlike_27 : decode cX8_mostAlike 27 = .ok (.ifCond .eq 5, 3) := by decide +kernel
theorem dX8_mostAlike_30 : decode cX8_mostAlike 30 = .ok (.iconst 2, 1) := by decide +kernel
theorem dX8_mostAlike_31 : decode cX8_mostAlike 31 = .ok (.ireturn, 1) := by decide +kernel
theorem dX8_mostAlike_32 : decode cX8_mostAlike 32 = .ok (.aload_n 0, 1) := by decide +kernel
theorem dX8_mostAlike_33 : decode cX8_mostAlike 33 = .ok (.getfield 24, 3) := by decide +kernel
theorem dX8_mostAlike_36 : decode cX8_mostAlike 36 = .ok (.bipush 8, 2) := by decide +kernel
theorem dX8_mostAlike_38 : decode cX8_mostAlike 38 = .ok (.iload_n 1, 1) := by decide +kernel
theorem dX8_mostAlike_39 : decode cX8_mostAlike 39 = .ok (.iadd, 1) := by decide +kernel
theorem dX8_mostAlike_40 : decode cX8_mostAlike 40 = .ok (.iaload, 1) := by decide +kernel
theorem dX8_mostAlike_41 : decode cX8_mostAlike 41 = .ok (.iload_n 2, 1) := by decide +kernel
theorem dX8_mostAlike_42 : decode cX8_mostAlike 42 = .ok (.iand, 1) := by decide +kernel
theorem dX8_mostAlike_43 : decode cX8_mostAlike 43 = .ok (.ifCond .eq 7, 3) := by decide +kernel
theorem dX8_mostAlike_46 : decode cX8_mostAlike 46 = .ok (.iconst 1, 1) := by decide +kernel
theorem dX8_mostAlike_47 : decode cX8_mostAlike 47 = .ok (.goto 4, 3) := by decide +kernel
theorem dX8_mostAlike_50 : decode cX8_mostAlike 50 = .ok (.iconst 0, 1) := by decide +kernel
theorem dX8_mostAlike_51 : decode cX8_mostAlike 51 = .ok (.ireturn, 1) := by decide +kernel
theorem dX8_leastUnlike_0 : decode cX8_leastUnlike 0 = .ok (.iconst 0, 1) := by decide +kernel
theorem dX8_leastUnlike_1 : decode cX8_leastUnlike 1 = .ok (.istore_n 1, 1) := by decide +kernel
theorem dX8_leastUnlike_2 : decode cX8_leastUnlike 2 = .ok (.iload_n 1, 1) := by decide +kernel
theorem dX8_leastUnlike_3 : decode cX8_leastUnlike 3 = .ok (.sipush 1000, 3) := by decide +kernel
theorem dX8_leastUnlike_6 : decode cX8_leastUnlike 6 = .ok (.if_icmp .ge 33, 3) := by decide +kernel
theorem dX8_leastUnlike_9 : decode cX8_leastUnlike 9 = .ok (.aload_n 0, 1) := by decide +kernel
theorem dX8_leastUnlike_10 : decode cX8_leastUnlike 10 = .ok (.iload_n 1, 1) := by decide +kernel
theorem dX8_leastUnlike_11 : decode cX8_leastUnlike 11 = .ok (.bipush 100, 2) := by decide +kernel
theorem dX8_leastUnlike_13 : decode cX8_leastUnlike 13 = .ok (.idiv, 1) := by decide +kernel
theorem dX8_leastUnlike_14 : decode cX8_leastUnlike 14 = .ok (.iload_n 1, 1) := by decide +kernel
theorem dX8_leastUnlike_15 : decode cX8_leastUnlike 15 = .ok (.bipush 10, 2) := by decide +kernel
theorem dX8_leastUnlike_17 : decode cX8_leastUnlike 17 = .ok (.idiv, 1) := by decide +kernel
theorem dX8_leastUnlike_18 : decode cX8_leastUnlike 18 = .ok (.bipush 10, 2) := by decide +kernel
theorem dX8_leastUnlike_20 : decode cX8_leastUnlike 20 = .ok (.irem, 1) := by decide +kernel
theorem dX8_leastUnlike_21 : decode cX8_leastUnlike 21 = .ok (.iload_n 1, 1) := by decide +kernel
theorem dX8_leastUnlike_22 : decode cX8_leastUnlike 22 = .ok (.bipush 10, 2) := by decide +kernel
theorem dX8_leastUnlike_24 : decode cX8_leastUnlike 24 = .ok (.irem, 1) := by decide +kernel
theorem dX8_leastUnlike_25 : decode cX8_leastUnlike 25 = .ok (.invokevirtual 68, 3) := by decide +kernel
theorem dX8_leastUnlike_28 : decode cX8_leastUnlike 28 = .ok (.ifCond .eq 5, 3) := by decide +kernel
theorem dX8_leastUnlike_31 : decode cX8_leastUnlike 31 = .ok (.iload_n 1, 1) := by decide +kernel
theorem dX8_leastUnlike_32 : decode cX8_leastUnlike 32 = .ok (.ireturn, 1) := by decide +kernel
theorem dX8_leastUnlike_33 : decode cX8_leastUnlike 33 = .ok (.iinc 1 1, 3) := by decide +kernel
theorem dX8_leastUnlike_36 : decode cX8_leastUnlike 36 = .ok (.goto (-34), 3) := by decide +kernel
theorem dX8_leastUnlike_39 : decode cX8_leastUnlike 39 = .ok (.bipush (-2), 2) := by decide +kernel
theorem dX8_leastUnlike_41 : decode cX8_leastUnlike 41 = .ok (.ireturn, 1) := by decide +kernel
theorem dX8_isUnlikeAll_0 : decode cX8_isUnlikeAll 0 = .ok (.iconst 0, 1) := by decide +kernel
theorem dX8_isUnlikeAll_1 : decode cX8_isUnlikeAll 1 = .ok (.istore 4, 2) := by decide +kernel
theorem dX8_isUnlikeAll_3 : decode cX8_isUnlikeAll 3 = .ok (.iload 4, 2) := by decide +kernel
theorem dX8_isUnlikeAll_5 : decode cX8_isUnlikeAll 5 = .ok (.aload_n 0, 1) := by decide +kernel
theorem dX8_isUnlikeAll_6 : decode cX8_isUnlikeAll 6 = .ok (.getfield 38, 3) := by decide +kernel
theorem dX8_isUnlikeAll_9 : decode cX8_isUnlikeAll 9 = .ok (.if_icmp .ge 27, 3) := by decide +kernel
theorem dX8_isUnlikeAll_12 : decode cX8_isUnlikeAll 12 = .ok (.aload_n 0, 1) := by decide +kernel
theorem dX8_isUnlikeAll_13 : decode cX8_isUnlikeAll 13 = .ok (.iload 4, 2) := by decide +kernel
theorem dX8_isUnlikeAll_15 : decode cX8_isUnlikeAll 15 = .ok (.iload_n 1, 1) := by decide +kernel
theorem dX8_isUnlikeAll_16 : decode cX8_isUnlikeAll 16 = .ok (.iload_n 2, 1) := by decide +kernel
theorem dX8_isUnlikeAll_17 : decode cX8_isUnlikeAll 17 = .ok (.iload_n 3, 1) := by decide +kernel
theorem dX8_isUnlikeAll_18 : decode cX8_isUnlikeAll 18 = .ok (.invokevirtual 60, 3) := by decide +kernel
theorem dX8_isUnlikeAll_21 : decode cX8_isUnlikeAll 21 = .ok (.aload_n 0, 1) := by decide +kernel
theorem dX8_isUnlikeAll_22 : decode cX8_isUnlikeAll 22 = .ok (.getfield 35, 3) := by decide +kernel
theorem dX8_isUnlikeAll_25 : decode cX8_isUnlikeAll 25 = .ok (.if_icmp .lt 5, 3) := by decide +kernel
theorem dX8_isUnlikeAll_28 : decode cX8_isUnlikeAll 28 = .ok (.iconst 0, 1) := by decide +kernel
theorem dX8_isUnlikeAll_29 : decode cX8_isUnlikeAll 29 = .ok (.ireturn, 1) := by decide +kernel
theorem dX8_isUnlikeAll_30 : decode cX8_isUnlikeAll 30 = .ok (.iinc 4 1, 3) := by decide +kernel
theorem dX8_isUnlikeAll_33 : decode cX8_isUnlikeAll 33 = .ok (.goto (-30), 3) := by decide +kernel
theorem dX8_isUnlikeAll_36 : decode cX8_isUnlikeAll 36 = .ok (.iconst 1, 1) := by decide +kernel
theorem dX8_isUnlikeAll_37 : decode cX8_isUnlikeAll 37 = .ok (.ireturn, 1) := by decide +kernel
theorem dX8_remembered_0 : decode cX8_remembered 0 = .ok (.iconst 0, 1) := by decide +kernel
theorem dX8_remembered_1 : decode cX8_remembered 1 = .ok (.istore_n 2, 1) := by decide +kernel
theorem dX8_remembered_2 : decode cX8_remembered 2 = .ok (.iconst 0, 1) := by decide +kernel
theorem dX8_remembered_3 : decode cX8_remembered 3 = .ok (.istore_n 3, 1) := by decide +kernel
theorem dX8_remembered_4 : decode cX8_remembered 4 = .ok (.iload_n 3, 1) := by decide +kernel
theorem dX8_remembered_5 : decode cX8_remembered 5 = .ok (.aload_n 0, 1) := by decide +kernel
theorem dX8_remembered_6 : decode cX8_remembered 6 = .ok (.getfield 38, 3) := by decide +kernel
theorem dX8_remembered_9 : decode cX8_remembered 9 = .ok (.if_icmp .ge 33, 3) := by decide +kernel
theorem dX8_remembered_12 : decode cX8_remembered 12 = .ok (.aload_n 1, 1) := by decide +kernel
theorem dX8_remembered_13 : decode cX8_remembered 13 = .ok (.getfield 72, 3) := by decide +kernel
theorem dX8_remembered_16 : decode cX8_remembered 16 = .ok (.aload_n 1, 1) := by decide +kernel
theorem dX8_remembered_17 : decode cX8_remembered 17 = .ok (.getfield 77, 3) := by decide +kernel
theorem dX8_remembered_20 : decode cX8_remembered 20 = .ok (.iload_n 3, 1) := by decide +kernel
theorem dX8_remembered_21 : decode cX8_remembered 21 = .ok (.iaload, 1) := by decide +kernel
theorem dX8_remembered_22 : decode cX8_remembered 22 = .ok (.isub, 1) := by decide +kernel
theorem dX8_remembered_23 : decode cX8_remembered 23 = .ok (.aload_n 0, 1) := by decide +kernel
theorem dX8_remembered_24 : decode cX8_remembered 24 = .ok (.getfield 31, 3) := by decide +kernel
theorem dX8_remembered_27 : decode cX8_remembered 27 = .ok (.if_icmp .ge 9, 3) := by decide +kernel
theorem dX8_remembered_30 : decode cX8_remembered 30 = .ok (.iload_n 2, 1) := by decide +kernel
theorem dX8_remembered_31 : decode cX8_remembered 31 = .ok (.iconst 1, 1) := by decide +kernel
theorem dX8_remembered_32 : decode cX8_remembered 32 = .ok (.iload_n 3, 1) := by decide +kernel
theorem dX8_remembered_33 : decode cX8_remembered 33 = .ok (.ishl, 1) := by decide +kernel
theorem dX8_remembered_34 : decode cX8_remembered 34 = .ok (.ior, 1) := by decide +kernel
theorem dX8_remembered_35 : decode cX8_remembered 35 = .ok (.istore_n 2, 1) := by decide +kernel
theorem dX8_remembered_36 : decode cX8_remembered 36 = .ok (.iinc 3 1, 3) := by decide +kernel
theorem dX8_remembered_39 : decode cX8_remembered 39 = .ok (.goto (-35), 3) := by decide +kernel
theorem dX8_remembered_42 : decode cX8_remembered 42 = .ok (.iload_n 2, 1) := by decide +kernel
theorem dX8_remembered_43 : decode cX8_remembered 43 = .ok (.ireturn, 1) := by decide +kernel
theorem dX8_waiting_0 : decode cX8_waiting 0 = .ok (.iconst 0, 1) := by decide +kernel
theorem dX8_waiting_1 : decode cX8_waiting 1 = .ok (.istore_n 2, 1) := by decide +kernel
theorem dX8_waiting_2 : decode cX8_waiting 2 = .ok (.iconst 0, 1) := by decide +kernel
theorem dX8_waiting_3 : decode cX8_waiting 3 = .ok (.istore_n 3, 1) := by decide +kernel
theorem dX8_waiting_4 : decode cX8_waiting 4 = .ok (.iload_n 3, 1) := by decide +kernel
theorem dX8_waiting_5 : decode cX8_waiting 5 = .ok (.aload_n 0, 1) := by decide +kernel
theorem dX8_waiting_6 : decode cX8_waiting 6 = .ok (.getfield 41, 3) := by decide +kernel
theorem dX8_waiting_9 : decode cX8_waiting 9 = .ok (.if_icmp .ge 25, 3) := by decide +kernel
theorem dX8_waiting_12 : decode cX8_waiting 12 = .ok (.aload_n 1, 1) := by decide +kernel
theorem dX8_waiting_13 : decode cX8_waiting 13 = .ok (.getfield 80, 3) := by decide +kernel
theorem dX8_waiting_16 : decode cX8_waiting 16 = .ok (.iload_n 3, 1) := by decide +kernel
theorem dX8_waiting_17 : decode cX8_waiting 17 = .ok (.iaload, 1) := by decide +kernel
theorem dX8_waiting_18 : decode cX8_waiting 18 = .ok (.iconst (-1), 1) := by decide +kernel
theorem dX8_waiting_19 : decode cX8_waiting 19 = .ok (.if_icmp .ne 9, 3) := by decide +kernel
theorem dX8_waiting_22 : decode cX8_waiting 22 = .ok (.iload_n 2, 1) := by decide +kernel
theorem dX8_waiting_23 : decode cX8_waiting 23 = .ok (.iconst 1, 1) := by decide +kernel
theorem dX8_waiting_24 : decode cX8_waiting 24 = .ok (.iload_n 3, 1) := by decide +kernel
theorem dX8_waiting_25 : decode cX8_waiting 25 = .ok (.ishl, 1) := by decide +kernel
theorem dX8_waiting_26 : decode cX8_waiting 26 = .ok (.ior, 1) := by decide +kernel
theorem dX8_waiting_27 : decode cX8_waiting 27 = .ok (.istore_n 2, 1) := by decide +kernel
theorem dX8_waiting_28 : decode cX8_waiting 28 = .ok (.iinc 3 1, 3) := by decide +kernel
theorem dX8_waiting_31 : decode cX8_waiting 31 = .ok (.goto (-27), 3) := by decide +kernel
theorem dX8_waiting_34 : decode cX8_waiting 34 = .ok (.iload_n 2, 1) := by decide +kernel
theorem dX8_waiting_35 : decode cX8_waiting 35 = .ok (.ireturn, 1) := by decide +kernel
theorem dX8_passed_0 : decode cX8_passed 0 = .ok (.aload_n 0, 1) := by decide +kernel
theorem dX8_passed_1 : decode cX8_passed 1 = .ok (.getfield 41, 3) := by decide +kernel
theorem dX8_passed_4 : decode cX8_passed 4 = .ok (.aload_n 0, 1) := by decide +kernel
theorem dX8_passed_5 : decode cX8_passed 5 = .ok (.aload_n 1, 1) := by decide +kernel
theorem dX8_passed_6 : decode cX8_passed 6 = .ok (.invokevirtual 83, 3) := by decide +kernel
theorem dX8_passed_9 : decode cX8_passed 9 = .ok (.invokestatic 87, 3) := by decide +kernel
theorem dX8_passed_12 : decode cX8_passed 12 = .ok (.isub, 1) := by decide +kernel
theorem dX8_passed_13 : decode cX8_passed 13 = .ok (.ireturn, 1) := by decide +kernel
theorem dX8_earned_0 : decode cX8_earned 0 = .ok (.iconst 0, 1) := by decide +kernel
theorem dX8_earned_1 : decode cX8_earned 1 = .ok (.istore_n 2, 1) := by decide +kernel
theorem dX8_earned_2 : decode cX8_earned 2 = .ok (.iconst 0, 1) := by decide +kernel
theorem dX8_earned_3 : decode cX8_earned 3 = .ok (.istore_n 3, 1) := by decide +kernel
theorem dX8_earned_4 : decode cX8_earned 4 = .ok (.iload_n 3, 1) := by decide +kernel
theorem dX8_earned_5 : decode cX8_earned 5 = .ok (.aload_n 0, 1) := by decide +kernel
theorem dX8_earned_6 : decode cX8_earned 6 = .ok (.getfield 41, 3) := by decide +kernel
theorem dX8_earned_9 : decode cX8_earned 9 = .ok (.if_icmp .ge 18, 3) := by decide +kernel
theorem dX8_earned_12 : decode cX8_earned 12 = .ok (.iload_n 2, 1) := by decide +kernel
theorem dX8_earned_13 : decode cX8_earned 13 = .ok (.aload_n 0, 1) := by decide +kernel
theorem dX8_earned_14 : decode cX8_earned 14 = .ok (.iload_n 3, 1) := by decide +kernel
theorem dX8_earned_15 : decode cX8_earned 15 = .ok (.aload_n 1, 1) := by decide +kernel
theorem dX8_earned_16 : decode cX8_earned 16 = .ok (.invokevirtual 93, 3) := by decide +kernel
theorem dX8_earned_19 : decode cX8_earned 19 = .ok (.iadd, 1) := by decide +kernel
theorem dX8_earned_20 : decode cX8_earned 20 = .ok (.istore_n 2, 1) := by decide +kernel
theorem dX8_earned_21 : decode cX8_earned 21 = .ok (.iinc 3 1, 3) := by decide +kernel
theorem dX8_earned_24 : decode cX8_earned 24 = .ok (.goto (-20), 3) := by decide +kernel
theorem dX8_earned_27 : decode cX8_earned 27 = .ok (.iload_n 2, 1) := by decide +kernel
theorem dX8_earned_28 : decode cX8_earned 28 = .ok (.ireturn, 1) := by decide +kernel
theorem dX8_earnedBy_0 : decode cX8_earnedBy 0 = .ok (.aload_n 2, 1) := by decide +kernel
theorem dX8_earnedBy_1 : decode cX8_earnedBy 1 = .ok (.getfield 80, 3) := by decide +kernel
theorem dX8_earnedBy_4 : decode cX8_earnedBy 4 = .ok (.iload_n 1, 1) := by decide +kernel
theorem dX8_earnedBy_5 : decode cX8_earnedBy 5 = .ok (.iaload, 1) := by decide +kernel
theorem dX8_earnedBy_6 : decode cX8_earnedBy 6 = .ok (.istore_n 3, 1) := by decide +kernel
theorem dX8_earnedBy_7 : decode cX8_earnedBy 7 = .ok (.iload_n 3, 1) := by decide +kernel
theorem dX8_earnedBy_8 : decode cX8_earnedBy 8 = .ok (.iconst (-1), 1) := by decide +kernel
theorem dX8_earnedBy_9 : decode cX8_earnedBy 9 = .ok (.if_icmp .eq 22, 3) := by decide +kernel
theorem dX8_earnedBy_12 : decode cX8_earnedBy 12 = .ok (.iload_n 3, 1) := by decide +kernel
theorem dX8_earnedBy_13 : decode cX8_earnedBy 13 = .ok (.aload_n 0, 1) := by decide +kernel
theorem dX8_earnedBy_14 : decode cX8_earnedBy 14 = .ok (.getfield 18, 3) := by decide +kernel
theorem dX8_earnedBy_17 : decode cX8_earnedBy 17 = .ok (.iload_n 1, 1) := by decide +kernel
theorem dX8_earnedBy_18 : decode cX8_earnedBy 18 = .ok (.iaload, 1) := by decide +kernel
theorem dX8_earnedBy_19 : decode cX8_earnedBy 19 = .ok (.if_icmp .gt 12, 3) := by decide +kernel
theorem dX8_earnedBy_22 : decode cX8_earnedBy 22 = .ok (.aload_n 0, 1) := by decide +kernel
theorem dX8_earnedBy_23 : decode cX8_earnedBy 23 = .ok (.getfield 15, 3) := by decide +kernel
theorem dX8_earnedBy_26 : decode cX8_earnedBy 26 = .ok (.iload_n 1, 1) := by decide +kernel
theorem dX8_earnedBy_27 : decode cX8_earnedBy 27 = .ok (.iaload, 1) := by decide +kernel
theorem dX8_earnedBy_28 : decode cX8_earnedBy 28 = .ok (.goto 4, 3) := by decide +kernel
theorem dX8_earnedBy_31 : decode cX8_earnedBy 31 = .ok (.iconst 0, 1) := by decide +kernel
theorem dX8_earnedBy_32 : decode cX8_earnedBy 32 = .ok (.ireturn, 1) := by decide +kernel
theorem dX8_partOf_0 : decode cX8_partOf 0 = .ok (.iconst 0, 1) := by decide +kernel
theorem dX8_partOf_1 : decode cX8_partOf 1 = .ok (.istore 4, 2) := by decide +kernel
theorem dX8_partOf_3 : decode cX8_partOf 3 = .ok (.iconst 0, 1) := by decide +kernel
theorem dX8_partOf_4 : decode cX8_partOf 4 = .ok (.istore 5, 2) := by decide +kernel
theorem dX8_partOf_6 : decode cX8_partOf 6 = .ok (.iload 5, 2) := by decide +kernel
theorem dX8_partOf_8 : decode cX8_partOf 8 = .ok (.aload_n 0, 1) := by decide +kernel
theorem dX8_partOf_9 : decode cX8_partOf 9 = .ok (.getfield 41, 3) := by decide +kernel
theorem dX8_partOf_12 : decode cX8_partOf 12 = .ok (.if_icmp .ge 21, 3) := by decide +kernel
theorem dX8_partOf_15 : decode cX8_partOf 15 = .ok (.iload 4, 2) := by decide +kernel
theorem dX8_partOf_17 : decode cX8_partOf 17 = .ok (.aload_n 0, 1) := by decide +kernel
theorem dX8_partOf_18 : decode cX8_partOf 18 = .ok (.iload 5, 2) := by decide +kernel
theorem dX8_partOf_20 : decode cX8_partOf 20 = .ok (.aload_n 3, 1) := by decide +kernel
theorem dX8_partOf_21 : decode cX8_partOf 21 = .ok (.invokevirtual 97, 3) := by decide +kernel
theorem dX8_partOf_24 : decode cX8_partOf 24 = .ok (.iadd, 1) := by decide +kernel
theorem dX8_partOf_25 : decode cX8_partOf 25 = .ok (.istore 4, 2) := by decide +kernel
theorem dX8_partOf_27 : decode cX8_partOf 27 = .ok (.iinc 5 1, 3) := by decide +kernel
theorem dX8_partOf_30 : decode cX8_partOf 30 = .ok (.goto (-24), 3) := by decide +kernel
theorem dX8_partOf_33 : decode cX8_partOf 33 = .ok (.iload 4, 2) := by decide +kernel
theorem dX8_partOf_35 : decode cX8_partOf 35 = .ok (.ifCond .ne 5, 3) := by decide +kernel
theorem dX8_partOf_38 : decode cX8_partOf 38 = .ok (.iconst 0, 1) := by decide +kernel
theorem dX8_partOf_39 : decode cX8_partOf 39 = .ok (.ireturn, 1) := by decide +kernel
theorem dX8_partOf_40 : decode cX8_partOf 40 = .ok (.iload_n 1, 1) := by decide +kernel
theorem dX8_partOf_41 : decode cX8_partOf 41 = .ok (.istore 5, 2) := by decide +kernel
theorem dX8_partOf_43 : decode cX8_partOf 43 = .ok (.iconst 0, 1) := by decide +kernel
theorem dX8_partOf_44 : decode cX8_partOf 44 = .ok (.istore 6, 2) := by decide +kernel
theorem dX8_partOf_46 : decode cX8_partOf 46 = .ok (.iload_n 1, 1) := by decide +kernel
theorem dX8_partOf_47 : decode cX8_partOf 47 = .ok (.aload_n 0, 1) := by decide +kernel
theorem dX8_partOf_48 : decode cX8_partOf 48 = .ok (.iload_n 2, 1) := by decide +kernel
theorem dX8_partOf_49 : decode cX8_partOf 49 = .ok (.aload_n 3, 1) := by decide +kernel
theorem dX8_partOf_50 : decode cX8_partOf 50 = .ok (.invokevirtual 97, 3) := by decide +kernel
theorem dX8_partOf_53 : decode cX8_partOf 53 = .ok (.imul, 1) := by decide +kernel
theorem dX8_partOf_54 : decode cX8_partOf 54 = .ok (.iload 4, 2) := by decide +kernel
theorem dX8_partOf_56 : decode cX8_partOf 56 = .ok (.irem, 1) := by decide +kernel
theorem dX8_partOf_57 : decode cX8_partOf 57 = .ok (.istore 7, 2) := by decide +kernel
theorem dX8_partOf_59 : decode cX8_partOf 59 = .ok (.iconst 0, 1) := by decide +kernel
theorem dX8_partOf_60 : decode cX8_partOf 60 = .ok (.istore 8, 2) := by decide +kernel
theorem dX8_partOf_62 : decode cX8_partOf 62 = .ok (.iload 8, 2) := by decide +kernel
theorem dX8_partOf_64 : decode cX8_partOf 64 = .ok (.aload_n 0, 1) := by decide +kernel
theorem dX8_partOf_65 : decode cX8_partOf 65 = .ok (.getfield 41, 3) := by decide +kernel
theorem dX8_partOf_68 : decode cX8_partOf 68 = .ok (.if_icmp .ge 59, 3) := by decide +kernel
theorem dX8_partOf_71 : decode cX8_partOf 71 = .ok (.iload_n 1, 1) := by decide +kernel
theorem dX8_partOf_72 : decode cX8_partOf 72 = .ok (.aload_n 0, 1) := by decide +kernel
theorem dX8_partOf_73 : decode cX8_partOf 73 = .ok (.iload 8, 2) := by decide +kernel
theorem dX8_partOf_75 : decode cX8_partOf 75 = .ok (.aload_n 3, 1) := by decide +kernel
theorem dX8_partOf_76 : decode cX8_partOf 76 = .ok (.invokevirtual 97, 3) := by decide +kernel
theorem dX8_partOf_79 : decode cX8_partOf 79 = .ok (.imul, 1) := by decide +kernel
theorem dX8_partOf_80 : decode cX8_partOf 80 = .ok (.istore 9, 2) := by decide +kernel
theorem dX8_partOf_82 : decode cX8_partOf 82 = .ok (.iload 5, 2) := by decide +kernel
theorem dX8_partOf_84 : decode cX8_partOf 84 = .ok (.iload 9, 2) := by decide +kernel
theorem dX8_partOf_86 : decode cX8_partOf 86 = .ok (.iload 4, 2) := by decide +kernel
theorem dX8_partOf_88 : decode cX8_partOf 88 = .ok (.idiv, 1) := by decide +kernel
theorem dX8_partOf_89 : decode cX8_partOf 89 = .ok (.isub, 1) := by decide +kernel
theorem dX8_partOf_90 : decode cX8_partOf 90 = .ok (.istore 5, 2) := by decide +kernel
theorem dX8_partOf_92 : decode cX8_partOf 92 = .ok (.iload 9, 2) := by decide +kernel
theorem dX8_partOf_94 : decode cX8_partOf 94 = .ok (.iload 4, 2) := by decide +kernel
theorem dX8_partOf_96 : decode cX8_partOf 96 = .ok (.irem, 1) := by decide +kernel
theorem dX8_partOf_97 : decode cX8_partOf 97 = .ok (.iload 7, 2) := by decide +kernel
theorem dX8_partOf_99 : decode cX8_partOf 99 = .ok (.if_icmp .gt 19, 3) := by decide +kernel
theorem dX8_partOf_102 : decode cX8_partOf 102 = .ok (.iload 9, 2) := by decide +kernel
theorem dX8_partOf_104 : decode cX8_partOf 104 = .ok (.iload 4, 2) := by decide +kernel
theorem dX8_partOf_106 : decode cX8_partOf 106 = .ok (.irem, 1) := by decide +kernel
theorem dX8_partOf_107 : decode cX8_partOf 107 = .ok (.iload 7, 2) := by decide +kernel
theorem dX8_partOf_109 : decode cX8_partOf 109 = .ok (.if_icmp .ne 12, 3) := by decide +kernel
theorem dX8_partOf_112 : decode cX8_partOf 112 = .ok (.iload 8, 2) := by decide +kernel
theorem dX8_partOf_114 : decode cX8_partOf 114 = .ok (.iload_n 2, 1) := by decide +kernel
theorem dX8_partOf_115 : decode cX8_partOf 115 = .ok (.if_icmp .ge 6, 3) := by decide +kernel
theorem dX8_partOf_118 : decode cX8_partOf 118 = .ok (.iinc 6 1, 3) := by decide +kernel
theorem dX8_partOf_121 : decode cX8_partOf 121 = .ok (.iinc 8 1, 3) := by decide +kernel
theorem dX8_partOf_124 : decode cX8_partOf 124 = .ok (.goto (-62), 3) := by decide +kernel
theorem dX8_partOf_127 : decode cX8_partOf 127 = .ok (.iload_n 1, 1) := by decide +kernel
theorem dX8_partOf_128 : decode cX8_partOf 128 = .ok (.aload_n 0, 1) := by decide +kernel
theorem dX8_partOf_129 : decode cX8_partOf 129 = .ok (.iload_n 2, 1) := by decide +kernel
theorem dX8_partOf_130 : decode cX8_partOf 130 = .ok (.aload_n 3, 1) := by decide +kernel
theorem dX8_partOf_131 : decode cX8_partOf 131 = .ok (.invokevirtual 97, 3) := by decide +kernel
theorem dX8_partOf_134 : decode cX8_partOf 134 = .ok (.imul, 1) := by decide +kernel
theorem dX8_partOf_135 : decode cX8_partOf 135 = .ok (.iload 4, 2) := by decide +kernel
theorem dX8_partOf_137 : decode cX8_partOf 137 = .ok (.idiv, 1) := by decide +kernel
theorem dX8_partOf_138 : decode cX8_partOf 138 = .ok (.iload 6, 2) := by decide +kernel
theorem dX8_partOf_140 : decode cX8_partOf 140 = .ok (.iload 5, 2) := by decide +kernel
theorem dX8_partOf_142 : decode cX8_partOf 142 = .ok (.if_icmp .ge 7, 3) := by decide +kernel
theorem dX8_partOf_145 : decode cX8_partOf 145 = .ok (.iconst 1, 1) := by decide +kernel
theorem dX8_partOf_146 : decode cX8_partOf 146 = .ok (.goto 4, 3) := by decide +kernel
theorem dX8_partOf_149 : decode cX8_partOf 149 = .ok (.iconst 0, 1) := by decide +kernel
theorem dX8_partOf_150 : decode cX8_partOf 150 = .ok (.iadd, 1) := by decide +kernel
theorem dX8_partOf_151 : decode cX8_partOf 151 = .ok (.ireturn, 1) := by decide +kernel
theorem dX8_weight_0 : decode cX8_weight 0 = .ok (.aload_n 2, 1) := by decide +kernel
theorem dX8_weight_1 : decode cX8_weight 1 = .ok (.getfield 80, 3) := by decide +kernel
theorem dX8_weight_4 : decode cX8_weight 4 = .ok (.iload_n 1, 1) := by decide +kernel
theorem dX8_weight_5 : decode cX8_weight 5 = .ok (.iaload, 1) := by decide +kernel
theorem dX8_weight_6 : decode cX8_weight 6 = .ok (.iconst (-1), 1) := by decide +kernel
theorem dX8_weight_7 : decode cX8_weight 7 = .ok (.if_icmp .ne 7, 3) := by decide +kernel
theorem dX8_weight_10 : decode cX8_weight 10 = .ok (.iconst 0, 1) := by decide +kernel
theorem dX8_weight_11 : decode cX8_weight 11 = .ok (.goto 9, 3) := by decide +kernel
theorem dX8_weight_14 : decode cX8_weight 14 = .ok (.aload_n 0, 1) := by decide +kernel
theorem dX8_weight_15 : decode cX8_weight 15 = .ok (.getfield 15, 3) := by decide +kernel
theorem dX8_weight_18 : decode cX8_weight 18 = .ok (.iload_n 1, 1) := by decide +kernel
theorem dX8_weight_19 : decode cX8_weight 19 = .ok (.iaload, 1) := by decide +kernel
theorem dX8_weight_20 : decode cX8_weight 20 = .ok (.ireturn, 1) := by decide +kernel
theorem dX1_init_0 : decode cX1_init 0 = .ok (.aload_n 0, 1) := by decide +kernel
theorem dX1_init_1 : decode cX1_init 1 = .ok (.invokespecial 3, 3) := by decide +kernel
theorem dX1_init_4 : decode cX1_init 4 = .ok (.aload_n 0, 1) := by decide +kernel
theorem dX1_init_5 : decode cX1_init 5 = .ok (.new 9, 3) := by decide +kernel
theorem dX1_init_8 : decode cX1_init 8 = .ok (.dup, 1) := by decide +kernel
theorem dX1_init_9 : decode cX1_init 9 = .ok (.invokespecial 11, 3) := by decide +kernel
theorem dX1_init_12 : decode cX1_init 12 = .ok (.putfield 12, 3) := by decide +kernel
theorem dX1_init_15 : decode cX1_init 15 = .ok (.aload_n 0, 1) := by decide +kernel
theorem dX1_init_16 : decode cX1_init 16 = .ok (.aload_n 1, 1) := by decide +kernel
theorem dX1_init_17 : decode cX1_init 17 = .ok (.putfield 18, 3) := by decide +kernel
theorem dX1_init_20 : decode cX1_init 20 = .ok (.return_, 1) := by decide +kernel
theorem dX1_read_0 : decode cX1_read 0 = .ok (.aload_n 0, 1) := by decide +kernel
theorem dX1_read_1 : decode cX1_read 1 = .ok (.getfield 18, 3) := by decide +kernel
theorem dX1_read_4 : decode cX1_read 4 = .ok (.invokevirtual 22, 3) := by decide +kernel
theorem dX1_read_7 : decode cX1_read 7 = .ok (.aload_n 0, 1) := by decide +kernel
theorem dX1_read_8 : decode cX1_read 8 = .ok (.getfield 12, 3) := by decide +kernel
theorem dX1_read_11 : decode cX1_read 11 = .ok (.invokevirtual 27, 3) := by decide +kernel
theorem dX1_read_14 : decode cX1_read 14 = .ok (.iconst 1, 1) := by decide +kernel
theorem dX1_read_15 : decode cX1_read 15 = .ok (.istore_n 1, 1) := by decide +kernel
theorem dX1_read_16 : decode cX1_read 16 = .ok (.iconst 0, 1) := by decide +kernel
theorem dX1_read_17 : decode cX1_read 17 = .ok (.istore_n 2, 1) := by decide +kernel
theorem dX1_read_18 : decode cX1_read 18 = .ok (.iload_n 1, 1) := by decide +kernel
theorem dX1_read_19 : decode cX1_read 19 = .ok (.ifCond .eq 39, 3) := by decide +kernel
theorem dX1_read_22 : decode cX1_read 22 = .ok (.iload_n 2, 1) := by decide +kernel
theorem dX1_read_23 : decode cX1_read 23 = .ok (.bipush 40, 2) := by decide +kernel
theorem dX1_read_25 : decode cX1_read 25 = .ok (.if_icmp .gt 33, 3) := by decide +kernel
theorem dX1_read_28 : decode cX1_read 28 = .ok (.aload_n 0, 1) := by decide +kernel
theorem dX1_read_29 : decode cX1_read 29 = .ok (.iload_n 2, 1) := by decide +kernel
theorem dX1_read_30 : decode cX1_read 30 = .ok (.invokevirtual 30, 3) := by decide +kernel
theorem dX1_read_33 : decode cX1_read 33 = .ok (.ifCond .eq 17, 3) := by decide +kernel
theorem dX1_read_36 : decode cX1_read 36 = .ok (.aload_n 0, 1) := by decide +kernel
theorem dX1_read_37 : decode cX1_read 37 = .ok (.getfield 18, 3) := by decide +kernel
theorem dX1_read_40 : decode cX1_read 40 = .ok (.invokevirtual 34, 3) := by decide +kernel
theorem dX1_read_43 : decode cX1_read 43 = .ok (.ifCond .eq 7, 3) := by decide +kernel
theorem dX1_read_46 : decode cX1_read 46 = .ok (.iconst 1, 1) := by decide +kernel
theorem dX1_read_47 : decode cX1_read 47 = .ok (.goto 4, 3) := by decide +kernel
theorem dX1_read_50 : decode cX1_read 50 = .ok (.iconst 0, 1) := by decide +kernel
theorem dX1_read_51 : decode cX1_read 51 = .ok (.istore_n 1, 1) := by decide +kernel
theorem dX1_read_52 : decode cX1_read 52 = .ok (.iinc 2 1, 3) := by decide +kernel
theorem dX1_read_55 : decode cX1_read 55 = .ok (.goto (-37), 3) := by decide +kernel
theorem dX1_read_58 : decode cX1_read 58 = .ok (.aload_n 0, 1) := by decide +kernel
theorem dX1_read_59 : decode cX1_read 59 = .ok (.getfield 18, 3) := by decide +kernel
theorem dX1_read_62 : decode cX1_read 62 = .ok (.getfield 38, 3) := by decide +kernel
theorem dX1_read_65 : decode cX1_read 65 = .ok (.ireturn, 1) := by decide +kernel
theorem dX1_readClause_0 : decode cX1_readClause 0 = .ok (.aload_n 0, 1) := by decide +kernel
theorem dX1_readClause_1 : decode cX1_readClause 1 = .ok (.getfield 18, 3) := by decide +kernel
theorem dX1_readClause_4 : decode cX1_readClause 4 = .ok (.getfield 42, 3) := by decide +kernel
theorem dX1_readClause_7 : decode cX1_readClause 7 = .ok (.lstore_n 2, 1) := by decide +kernel
theorem dX1_readClause_8 : decode cX1_readClause 8 = .ok (.lload_n 2, 1) := by decide +kernel
theorem dX1_readClause_9 : decode cX1_readClause 9 = .ok (.ldc2_w 46, 3) := by decide +kernel
theorem dX1_readClause_12 : decode cX1_readClause 12 = .ok (.lcmp, 1) := by decide +kernel
theorem dX1_readClause_13 : decode cX1_readClause 13 = .ok (.ifCond .eq 43, 3) := by decide +kernel
theorem dX1_readClause_16 : decode cX1_readClause 16 = .ok (.lload_n 2, 1) := by decide +kernel
theorem dX1_readClause_17 : decode cX1_readClause 17 = .ok (.ldc2_w 48, 3) := by decide +kernel
theorem dX1_readClause_20 : decode cX1_readClause 20 = .ok (.lcmp, 1) := by decide +kernel
theorem dX1_readClause_21 : decode cX1_readClause 21 = .ok (.ifCond .eq 35, 3) := by decide +kernel
theorem dX1_readClause_24 : decode cX1_readClause 24 = .ok (.lload_n 2, 1) := by decide +kernel
theorem dX1_readClause_25 : decode cX1_readClause 25 = .ok (.ldc2_w 50, 3) := by decide +kernel
theorem dX1_readClause_28 : decode cX1_readClause 28 = .ok (.lcmp, 1) := by decide +kernel
theorem dX1_readClause_29 : decode cX1_readClause 29 = .ok (.ifCond .eq 27, 3) := by decide +kernel
theorem dX1_readClause_32 : decode cX1_readClause 32 = .ok (.lload_n 2, 1) := by decide +kernel
theorem dX1_readClause_33 : decode cX1_readClause 33 = .ok (.ldc2_w 52, 3) := by decide +kernel
theorem dX1_readClause_36 : decode cX1_readClause 36 = .ok (.lcmp, 1) := by decide +kernel
theorem dX1_readClause_37 : decode cX1_readClause 37 = .ok (.ifCond .eq 19, 3) := by decide +kernel
theorem dX1_readClause_40 : decode cX1_readClause 40 = .ok (.aload_n 0, 1) := by decide +kernel
theorem dX1_readClause_41 : decode cX1_readClause 41 = .ok (.getfield 18, 3) := by decide +kernel
theorem dX1_readClause_44 : decode cX1_readClause 44 = .ok (.aload_n 0, 1) := by decide +kernel
theorem dX1_readClause_45 : decode cX1_readClause 45 = .ok (.getfield 18, 3) := by decide +kernel
theorem dX1_readClause_48 : decode cX1_readClause 48 = .ok (.getfield 54, 3) := by decide +kernel
theorem dX1_readClause_51 : decode cX1_readClause 51 = .ok (.iconst 0, 1) := by decide +kernel
theorem dX1_readClause_52 : decode cX1_readClause 52 = .ok (.invokevirtual 57, 3) := by decide +kernel
theorem dX1_readClause_55 : decode cX1_readClause 55 = .ok (.ireturn, 1) := by decide +kernel
theorem dX1_readClause_56 : decode cX1_readClause 56 = .ok (.aload_n 0, 1) := by decide +kernel
theorem dX1_readClause_57 : decode cX1_readClause 57 = .ok (.lload_n 2, 1) := by decide +kernel
theorem dX1_readClause_58 : decode cX1_readClause 58 = .ok (.iload_n 1, 1) := by decide +kernel
theorem dX1_readClause_59 : decode cX1_readClause 59 = .ok (.invokevirtual 61, 3) := by decide +kernel
theorem dX1_readClause_62 : decode cX1_readClause 62 = .ok (.ifCond .eq 19, 3) := by decide +kernel
theorem dX1_readClause_65 : decode cX1_readClause 65 = .ok (.aload_n 0, 1) := by decide +kernel
theorem dX1_readClause_66 : decode cX1_readClause 66 = .ok (.getfield 18, 3) := by decide +kernel
theorem dX1_readClause_69 : decode cX1_readClause 69 = .ok (.aload_n 0, 1) := by decide +kernel
theorem dX1_readClause_70 : decode cX1_readClause 70 = .ok (.getfield 18, 3) := by decide +kernel
theorem dX1_readClause_73 : decode cX1_readClause 73 = .ok (.getfield 54, 3) := by decide +kernel
theorem dX1_readClause_76 : decode cX1_readClause 76 = .ok (.iconst 4, 1) := by decide +kernel
theorem dX1_readClause_77 : decode cX1_readClause 77 = .ok (.invokevirtual 57, 3) := by decide +kernel
theorem dX1_readClause_80 : decode cX1_readClause 80 = .ok (.ireturn, 1) := by decide +kernel
theorem dX1_readClause_81 : decode cX1_readClause 81 = .ok (.aload_n 0, 1) := by decide +kernel
theorem dX1_readClause_82 : decode cX1_readClause 82 = .ok (.getfield 18, 3) := by decide +kernel
theorem dX1_readClause_85 : decode cX1_readClause 85 = .ok (.invokevirtual 65, 3) := by decide +kernel
theorem dX1_readClause_88 : decode cX1_readClause 88 = .ok (.lload_n 2, 1) := by decide +kernel
theorem dX1_readClause_89 : decode cX1_readClause 89 = .ok (.ldc2_w 46, 3) := by decide +kernel
theorem dX1_readClause_92 : decode cX1_readClause 92 = .ok (.lcmp, 1) := by decide +kernel
theorem dX1_readClause_93 : decode cX1_readClause 93 = .ok (.ifCond .ne 8, 3) := by decide +kernel
theorem dX1_readClause_96 : decode cX1_readClause 96 = .ok (.aload_n 0, 1) := by decide +kernel
theorem dX1_readClause_97 : decode cX1_readClause 97 = .ok (.invokevirtual 68, 3) := by decide +kernel
theorem dX1_readClause_100 : decode cX1_readClause 100 = .ok (.ireturn, 1) := by decide +kernel
theorem dX1_readClause_101 : decode cX1_readClause 101 = .ok (.lload_n 2, 1) := by decide +kernel
theorem dX1_readClause_102 : decode cX1_readClause 102 = .ok (.ldc2_w 48, 3) := by decide +kernel
theorem dX1_readClause_105 : decode cX1_readClause 105 = .ok (.lcmp, 1) := by decide +kernel
theorem dX1_readClause_106 : decode cX1_readClause 106 = .ok (.ifCond .ne 8, 3) := by decide +kernel
theorem dX1_readClause_109 : decode cX1_readClause 109 = .ok (.aload_n 0, 1) := by decide +kernel
theorem dX1_readClause_110 : decode cX1_readClause 110 = .ok (.invokevirtual 71, 3) := by decide +kernel
theorem dX1_readClause_113 : decode cX1_readClause 113 = .ok (.ireturn, 1) := by decide +kernel
theorem dX1_readClause_114 : decode cX1_readClause 114 = .ok (.lload_n 2, 1) := by decide +kernel
theorem dX1_readClause_115 : decode cX1_readClause 115 = .ok (.ldc2_w 50, 3) := by decide +kernel
theorem dX1_readClause_118 : decode cX1_readClause 118 = .ok (.lcmp, 1) := by decide +kernel
theorem dX1_readClause_119 : decode cX1_readClause 119 = .ok (.ifCond .ne 10, 3) := by decide +kernel
theorem dX1_readClause_122 : decode cX1_readClause 122 = .ok (.aload_n 0, 1) := by decide +kernel
theorem dX1_readClause_123 : decode cX1_readClause 123 = .ok (.invokevirtual 74, 3) := by decide +kernel
theorem dX1_readClause_126 : decode cX1_readClause 126 = .ok (.goto 7, 3) := by decide +kernel
theorem dX1_readClause_129 : decode cX1_readClause 129 = .ok (.aload_n 0, 1) := by decide +kernel
theorem dX1_readClause_130 : decode cX1_readClause 130 = .ok (.invokevirtual 77, 3) := by decide +kernel
theorem dX1_readClause_133 : decode cX1_readClause 133 = .ok (.ireturn, 1) := by decide +kernel
theorem dX1_isTooMuch_0 : decode cX1_isTooMuch 0 = .ok (.lload_n 1, 1) := by decide +kernel
theorem dX1_isTooMuch_1 : decode cX1_isTooMuch 1 = .ok (.ldc2_w 46, 3) := by decide +kernel
theorem dX1_isTooMuch_4 : decode cX1_isTooMuch 4 = .ok (.lcmp, 1) := by decide +kernel
theorem dX1_isTooMuch_5 : decode cX1_isTooMuch 5 = .ok (.ifCond .ne 7, 3) := by decide +kernel
theorem dX1_isTooMuch_8 : decode cX1_isTooMuch 8 = .ok (.iconst 1, 1) := by decide +kernel
theorem dX1_isTooMuch_9 : decode cX1_isTooMuch 9 = .ok (.goto 4, 3) := by decide +kernel
theorem dX1_isTooMuch_12 : decode cX1_isTooMuch 12 = .ok (.iconst 0, 1) := by decide +kernel
theorem dX1_isTooMuch_13 : decode cX1_isTooMuch 13 = .ok (.iload_n 3, 1) := by decide +kernel
theorem dX1_isTooMuch_14 : decode cX1_isTooMuch 14 = .ok (.ifCond .ne 7, 3) := by decide +kernel
theorem dX1_isTooMuch_17 : decode cX1_isTooMuch 17 = .ok (.iconst 1, 1) := by decide +kernel
theorem dX1_isTooMuch_18 : decode cX1_isTooMuch 18 = .ok (.goto 4, 3) := by decide +kernel
theorem dX1_isTooMuch_21 : decode cX1_isTooMuch 21 = .ok (.iconst 0, 1) := by decide +kernel
theorem dX1_isTooMuch_22 : decode cX1_isTooMuch 22 = .ok (.if_icmp .ne 48, 3) := by decide +kernel
theorem dX1_isTooMuch_25 : decode cX1_isTooMuch 25 = .ok (.iload_n 3, 1) := by decide +kernel
theorem dX1_isTooMuch_26 : decode cX1_isTooMuch 26 = .ok (.bipush 40, 2) := by decide +kernel
theorem dX1_isTooMuch_28 : decode cX1_isTooMuch 28 = .ok (.if_icmp .ge 42, 3) := by decide +kernel
theorem dX1_isTooMuch_31 : decode cX1_isTooMuch 31 = .ok (.lload_n 1, 1) := by decide +kernel
theorem dX1_isTooMuch_32 : decode cX1_isTooMuch 32 = .ok (.ldc2_w 48, 3) := by decide +kernel
theorem dX1_isTooMuch_35 : decode cX1_isTooMuch 35 = .ok (.lcmp, 1) := by decide +kernel
theorem dX1_isTooMuch_36 : decode cX1_isTooMuch 36 = .ok (.ifCond .ne 15, 3) := by decide +kernel
theorem dX1_isTooMuch_39 : decode cX1_isTooMuch 39 = .ok (.aload_n 0, 1) := by decide +kernel
theorem dX1_isTooMuch_40 : decode cX1_isTooMuch 40 = .ok (.getfield 12, 3) := by decide +kernel
theorem dX1_isTooMuch_43 : decode cX1_isTooMuch 43 = .ok (.getfield 80, 3) := by decide +kernel
theorem dX1_isTooMuch_46 : decode cX1_isTooMuch 46 = .ok (.bipush 8, 2) := by decide +kernel
theorem dX1_isTooMuch_48 : decode cX1_isTooMuch 48 = .ok (.if_icmp .ge 22, 3) := by decide +kernel
theorem dX1_isTooMuch_51 : decode cX1_isTooMuch 51 = .ok (.lload_n 1, 1) := by decide +kernel
theorem dX1_isTooMuch_52 : decode cX1_isTooMuch 52 = .ok (.ldc2_w 50, 3) := by decide +kernel
theorem dX1_isTooMuch_55 : decode cX1_isTooMuch 55 = .ok (.lcmp, 1) := by decide +kernel
theorem dX1_isTooMuch_56 : decode cX1_isTooMuch 56 = .ok (.ifCond .ne 18, 3) := by decide +kernel
theorem dX1_isTooMuch_59 : decode cX1_isTooMuch 59 = .ok (.aload_n 0, 1) := by decide +kernel
theorem dX1_isTooMuch_60 : decode cX1_isTooMuch 60 = .ok (.getfield 12, 3) := by decide +kernel
theorem dX1_isTooMuch_63 : decode cX1_isTooMuch 63 = .ok (.getfield 83, 3) := by decide +kernel
theorem dX1_isTooMuch_66 : decode cX1_isTooMuch 66 = .ok (.iconst 5, 1) := by decide +kernel
theorem dX1_isTooMuch_67 : decode cX1_isTooMuch 67 = .ok (.if_icmp .lt 7, 3) := by decide +kernel
theorem dX1_isTooMuch_70 : decode cX1_isTooMuch 70 = .ok (.iconst 1, 1) := by decide +kernel
theorem dX1_isTooMuch_71 : decode cX1_isTooMuch 71 = .ok (.goto 4, 3) := by decide +kernel
theorem dX1_isTooMuch_74 : decode cX1_isTooMuch 74 = .ok (.iconst 0, 1) := by decide +kernel
theorem dX1_isTooMuch_75 : decode cX1_isTooMuch 75 = .ok (.ireturn, 1) := by decide +kernel
theorem dX1_readBar_0 : decode cX1_readBar 0 = .ok (.aload_n 0, 1) := by decide +kernel
theorem dX1_readBar_1 : decode cX1_readBar 1 = .ok (.getfield 12, 3) := by decide +kernel
theorem dX1_readBar_4 : decode cX1_readBar 4 = .ok (.aload_n 0, 1) := by decide +kernel
theorem dX1_readBar_5 : decode cX1_readBar 5 = .ok (.getfield 18, 3) := by decide +kernel
theorem dX1_readBar_8 : decode cX1_readBar 8 = .ok (.iconst 1, 1) := by decide +kernel
theorem dX1_readBar_9 : decode cX1_readBar 9 = .ok (.bipush 60, 2) := by decide +kernel
theorem dX1_readBar_11 : decode cX1_readBar 11 = .ok (.invokevirtual 86, 3) := by decide +kernel
theorem dX1_readBar_14 : decode cX1_readBar 14 = .ok (.putfield 90, 3) := by decide +kernel
theorem dX1_readBar_17 : decode cX1_readBar 17 = .ok (.aload_n 0, 1) := by decide +kernel
theorem dX1_readBar_18 : decode cX1_readBar 18 = .ok (.getfield 12, 3) := by decide +kernel
theorem dX1_readBar_21 : decode cX1_readBar 21 = .ok (.aload_n 0, 1) := by decide +kernel
theorem dX1_readBar_22 : decode cX1_readBar 22 = .ok (.getfield 12, 3) := by decide +kernel
theorem dX1_readBar_25 : decode cX1_readBar 25 = .ok (.getfield 90, 3) := by decide +kernel
theorem dX1_readBar_28 : decode cX1_readBar 28 = .ok (.iconst (-1), 1) := by decide +kernel
theorem dX1_readBar_29 : decode cX1_readBar 29 = .ok (.if_icmp .ne 7, 3) := by decide +kernel
theorem dX1_readBar_32 : decode cX1_readBar 32 = .ok (.iconst (-1), 1) := by decide +kernel
theorem dX1_readBar_33 : decode cX1_readBar 33 = .ok (.goto 12, 3) := by decide +kernel
theorem dX1_readBar_36 : decode cX1_readBar 36 = .ok (.aload_n 0, 1) := by decide +kernel
theorem dX1_readBar_37 : decode cX1_readBar 37 = .ok (.getfield 18, 3) := by decide +kernel
theorem dX1_readBar_40 : decode cX1_readBar 40 = .ok (.iconst 1, 1) := by decide +kernel
theorem dX1_readBar_41 : decode cX1_readBar 41 = .ok (.iconst 3, 1) := by decide +kernel
theorem dX1_readBar_42 : decode cX1_readBar 42 = .ok (.invokevirtual 86, 3) := by decide +kernel
theorem dX1_readBar_45 : decode cX1_readBar 45 = .ok (.putfield 93, 3) := by decide +kernel
theorem dX1_readBar_48 : decode cX1_readBar 48 = .ok (.aload_n 0, 1) := by decide +kernel
theorem dX1_readBar_49 : decode cX1_readBar 49 = .ok (.getfield 12, 3) := by decide +kernel
theorem dX1_readBar_52 : decode cX1_readBar 52 = .ok (.getfield 93, 3) := by decide +kernel
theorem dX1_readBar_55 : decode cX1_readBar 55 = .ok (.iconst (-1), 1) := by decide +kernel
theorem dX1_readBar_56 : decode cX1_readBar 56 = .ok (.if_icmp .eq 7, 3) := by decide +kernel
theorem dX1_readBar_59 : decode cX1_readBar 59 = .ok (.iconst 1, 1) := by decide +kernel
theorem dX1_readBar_60 : decode cX1_readBar 60 = .ok (.goto 4, 3) := by decide +kernel
theorem dX1_readBar_63 : decode cX1_readBar 63 = .ok (.iconst 0, 1) := by decide +kernel
theorem dX1_readBar_64 : decode cX1_readBar 64 = .ok (.ireturn, 1) := by decide +kernel
theorem dX1_readJoke_0 : decode cX1_readJoke 0 = .ok (.aload_n 0, 1) := by decide +kernel
theorem dX1_readJoke_1 : decode cX1_readJoke 1 = .ok (.getfield 18, 3) := by decide +kernel
theorem dX1_readJoke_4 : decode cX1_readJoke 4 = .ok (.iconst 0, 1) := by decide +kernel
theorem dX1_readJoke_5 : decode cX1_readJoke 5 = .ok (.bipush 9, 2) := by decide +kernel
theorem dX1_readJoke_7 : decode cX1_readJoke 7 = .ok (.invokevirtual 86, 3) := by decide +kernel
theorem dX1_readJoke_10 : decode cX1_readJoke 10 = .ok (.istore_n 1, 1) := by decide +kernel
theorem dX1_readJoke_11 : decode cX1_readJoke 11 = .ok (.iload_n 1, 1) := by decide +kernel
theorem dX1_readJoke_12 : decode cX1_readJoke 12 = .ok (.iconst (-1), 1) := by decide +kernel
theorem dX1_readJoke_13 : decode cX1_readJoke 13 = .ok (.if_icmp .ne 7, 3) := by decide +kernel
theorem dX1_readJoke_16 : decode cX1_readJoke 16 = .ok (.iconst (-1), 1) := by decide +kernel
theorem dX1_readJoke_17 : decode cX1_readJoke 17 = .ok (.goto 13, 3) := by decide +kernel
theorem dX1_readJoke_20 : decode cX1_readJoke 20 = .ok (.aload_n 0, 1) := by decide +kernel
theorem dX1_readJoke_21 : decode cX1_readJoke 21 = .ok (.getfield 18, 3) := by decide +kernel
theorem dX1_readJoke_24 : decode cX1_readJoke 24 = .ok (.iconst 0, 1) := by decide +kernel
theorem dX1_readJoke_25 : decode cX1_readJoke 25 = .ok (.bipush 9, 2) := by decide +kernel
theorem dX1_readJoke_27 : decode cX1_readJoke 27 = .ok (.invokevirtual 86, 3) := by decide +kernel
theorem dX1_readJoke_30 : decode cX1_readJoke 30 = .ok (.istore_n 2, 1) := by decide +kernel
theorem dX1_readJoke_31 : decode cX1_readJoke 31 = .ok (.iload_n 2, 1) := by decide +kernel
theorem dX1_readJoke_32 : decode cX1_readJoke 32 = .ok (.iconst (-1), 1) := by decide +kernel
theorem dX1_readJoke_33 : decode cX1_readJoke 33 = .ok (.if_icmp .ne 7, 3) := by decide +kernel
theorem dX1_readJoke_36 : decode cX1_readJoke 36 = .ok (.iconst (-1), 1) := by decide +kernel
theorem dX1_readJoke_37 : decode cX1_readJoke 37 = .ok (.goto 13, 3) := by decide +kernel
theorem dX1_readJoke_40 : decode cX1_readJoke 40 = .ok (.aload_n 0, 1) := by decide +kernel
theorem dX1_readJoke_41 : decode cX1_readJoke 41 = .ok (.getfield 18, 3) := by decide +kernel
theorem dX1_readJoke_44 : decode cX1_readJoke 44 = .ok (.iconst 0, 1) := by decide +kernel
theorem dX1_readJoke_45 : decode cX1_readJoke 45 = .ok (.bipush 9, 2) := by decide +kernel
theorem dX1_readJoke_47 : decode cX1_readJoke 47 = .ok (.invokevirtual 86, 3) := by decide +kernel
theorem dX1_readJoke_50 : decode cX1_readJoke 50 = .ok (.istore_n 3, 1) := by decide +kernel
theorem dX1_readJoke_51 : decode cX1_readJoke 51 = .ok (.iload_n 3, 1) := by decide +kernel
theorem dX1_readJoke_52 : decode cX1_readJoke 52 = .ok (.iconst (-1), 1) := by decide +kernel
theorem dX1_readJoke_53 : decode cX1_readJoke 53 = .ok (.if_icmp .ne 5, 3) := by decide +kernel
theorem dX1_readJoke_56 : decode cX1_readJoke 56 = .ok (.iconst 0, 1) := by decide +kernel
theorem dX1_readJoke_57 : decode cX1_readJoke 57 = .ok (.ireturn, 1) := by decide +kernel
theorem dX1_readJoke_58 : decode cX1_readJoke 58 = .ok (.aload_n 0, 1) := by decide +kernel
theorem dX1_readJoke_59 : decode cX1_readJoke 59 = .ok (.getfield 12, 3) := by decide +kernel
theorem dX1_readJoke_62 : decode cX1_readJoke 62 = .ok (.iload_n 1, 1) := by decide +kernel
theorem dX1_readJoke_63 : decode cX1_readJoke 63 = .ok (.iload_n 2, 1) := by decide +kernel
theorem dX1_readJoke_64 : decode cX1_readJoke 64 = .ok (.iload_n 3, 1) := by decide +kernel
theorem dX1_readJoke_65 : decode cX1_readJoke 65 = .ok (.invokevirtual 96, 3) := by decide +kernel
theorem dX1_readJoke_68 : decode cX1_readJoke 68 = .ok (.iconst 1, 1) := by decide +kernel
theorem dX1_readJoke_69 : decode cX1_readJoke 69 = .ok (.ireturn, 1) := by decide +kernel
theorem dX1_readShip_0 : decode cX1_readShip 0 = .ok (.aload_n 0, 1) := by decide +kernel
theorem dX1_readShip_1 : decode cX1_readShip 1 = .ok (.getfield 18, 3) := by decide +kernel
theorem dX1_readShip_4 : decode cX1_readShip 4 = .ok (.iconst 0, 1) := by decide +kernel
theorem dX1_readShip_5 : decode cX1_readShip 5 = .ok (.bipush 99, 2) := by decide +kernel
theorem dX1_readShip_7 : decode cX1_readShip 7 = .ok (.invokevirtual 86, 3) := by decide +kernel
theorem dX1_readShip_10 : decode cX1_readShip 10 = .ok (.istore_n 1, 1) := by decide +kernel
theorem dX1_readShip_11 : decode cX1_readShip 11 = .ok (.iload_n 1, 1) := by decide +kernel
theorem dX1_readShip_12 : decode cX1_readShip 12 = .ok (.iconst (-1), 1) := by decide +kernel
theorem dX1_readShip_13 : decode cX1_readShip 13 = .ok (.if_icmp .ne 7, 3) := by decide +kernel
theorem dX1_readShip_16 : decode cX1_readShip 16 = .ok (.iconst (-1), 1) := by decide +kernel
theorem dX1_readShip_17 : decode cX1_readShip 17 = .ok (.goto 13, 3) := by decide +kernel
theorem dX1_readShip_20 : decode cX1_readShip 20 = .ok (.aload_n 0, 1) := by decide +kernel
theorem dX1_readShip_21 : decode cX1_readShip 21 = .ok (.getfield 18, 3) := by decide +kernel
theorem dX1_readShip_24 : decode cX1_readShip 24 = .ok (.iconst 0, 1) := by decide +kernel
theorem dX1_readShip_25 : decode cX1_readShip 25 = .ok (.bipush 60, 2) := by decide +kernel
theorem dX1_readShip_27 : decode cX1_readShip 27 = .ok (.invokevirtual 86, 3) := by decide +kernel
theorem dX1_readShip_30 : decode cX1_readShip 30 = .ok (.istore_n 2, 1) := by decide +kernel
theorem dX1_readShip_31 : decode cX1_readShip 31 = .ok (.iload_n 2, 1) := by decide +kernel
theorem dX1_readShip_32 : decode cX1_readShip 32 = .ok (.iconst (-1), 1) := by decide +kernel
theorem dX1_readShip_33 : decode cX1_readShip 33 = .ok (.if_icmp .ne 5, 3) := by decide +kernel
theorem dX1_readShip_36 : decode cX1_readShip 36 = .ok (.iconst 0, 1) := by decide +kernel
theorem dX1_readShip_37 : decode cX1_readShip 37 = .ok (.ireturn, 1) := by decide +kernel
theorem dX1_readShip_38 : decode cX1_readShip 38 = .ok (.aload_n 0, 1) := by decide +kernel
theorem dX1_readShip_39 : decode cX1_readShip 39 = .ok (.getfield 12, 3) := by decide +kernel
theorem dX1_readShip_42 : decode cX1_readShip 42 = .ok (.iload_n 1, 1) := by decide +kernel
theorem dX1_readShip_43 : decode cX1_readShip 43 = .ok (.iload_n 2, 1) := by decide +kernel
theorem dX1_readShip_44 : decode cX1_readShip 44 = .ok (.invokevirtual 100, 3) := by decide +kernel
theorem dX1_readShip_47 : decode cX1_readShip 47 = .ok (.iconst 1, 1) := by decide +kernel
theorem dX1_readShip_48 : decode cX1_readShip 48 = .ok (.ireturn, 1) := by decide +kernel
theorem dX1_readKnows_0 : decode cX1_readKnows 0 = .ok (.aload_n 0, 1) := by decide +kernel
theorem dX1_readKnows_1 : decode cX1_readKnows 1 = .ok (.getfield 18, 3) := by decide +kernel
theorem dX1_readKnows_4 : decode cX1_readKnows 4 = .ok (.iconst 0, 1) := by decide +kernel
theorem dX1_readKnows_5 : decode cX1_readKnows 5 = .ok (.aload_n 0, 1) := by decide +kernel
theorem dX1_readKnows_6 : decode cX1_readKnows 6 = .ok (.getfield 12, 3) := by decide +kernel
theorem dX1_readKnows_9 : decode cX1_readKnows 9 = .ok (.getfield 83, 3) := by decide +kernel
theorem dX1_readKnows_12 : decode cX1_readKnows 12 = .ok (.iconst 1, 1) := by decide +kernel
theorem dX1_readKnows_13 : decode cX1_readKnows 13 = .ok (.isub, 1) := by decide +kernel
theorem dX1_readKnows_14 : decode cX1_readKnows 14 = .ok (.invokevirtual 86, 3) := by decide +kernel
theorem dX1_readKnows_17 : decode cX1_readKnows 17 = .ok (.istore_n 1, 1) := by decide +kernel
theorem dX1_readKnows_18 : decode cX1_readKnows 18 = .ok (.iload_n 1, 1) := by decide +kernel
theorem dX1_readKnows_19 : decode cX1_readKnows 19 = .ok (.iconst (-1), 1) := by decide +kernel
theorem dX1_readKnows_20 : decode cX1_readKnows 20 = .ok (.if_icmp .ne 7, 3) := by decide +kernel
theorem dX1_readKnows_23 : decode cX1_readKnows 23 = .ok (.iconst (-1), 1) := by decide +kernel
theorem dX1_readKnows_24 : decode cX1_readKnows 24 = .ok (.goto 20, 3) := by decide +kernel
theorem dX1_readKnows_27 : decode cX1_readKnows 27 = .ok (.aload_n 0, 1) := by decide +kernel
theorem dX1_readKnows_28 : decode cX1_readKnows 28 = .ok (.getfield 18, 3) := by decide +kernel
theorem dX1_readKnows_31 : decode cX1_readKnows 31 = .ok (.iconst 0, 1) := by decide +kernel
theorem dX1_readKnows_32 : decode cX1_readKnows 32 = .ok (.aload_n 0, 1) := by decide +kernel
theorem dX1_readKnows_33 : decode cX1_readKnows 33 = .ok (.getfield 12, 3) := by decide +kernel
theorem dX1_readKnows_36 : decode cX1_readKnows 36 = .ok (.getfield 80, 3) := by decide +kernel
theorem dX1_readKnows_39 : decode cX1_readKnows 39 = .ok (.iconst 1, 1) := by decide +kernel
theorem dX1_readKnows_40 : decode cX1_readKnows 40 = .ok (.isub, 1) := by decide +kernel
theorem dX1_readKnows_41 : decode cX1_readKnows 41 = .ok (.invokevirtual 86, 3) := by decide +kernel
theorem dX1_readKnows_44 : decode cX1_readKnows 44 = .ok (.istore_n 2, 1) := by decide +kernel
theorem dX1_readKnows_45 : decode cX1_readKnows 45 = .ok (.iload_n 2, 1) := by decide +kernel
theorem dX1_readKnows_46 : decode cX1_readKnows 46 = .ok (.iconst (-1), 1) := by decide +kernel
theorem dX1_readKnows_47 : decode cX1_readKnows 47 = .ok (.if_icmp .ne 5, 3) := by decide +kernel
theorem dX1_readKnows_50 : decode cX1_readKnows 50 = .ok (.iconst 0, 1) := by decide +kernel
theorem dX1_readKnows_51 : decode cX1_readKnows 51 = .ok (.ireturn, 1) := by decide +kernel
theorem dX1_readKnows_52 : decode cX1_readKnows 52 = .ok (.aload_n 0, 1) := by decide +kernel
theorem dX1_readKnows_53 : decode cX1_readKnows 53 = .ok (.getfield 12, 3) := by decide +kernel
theorem dX1_readKnows_56 : decode cX1_readKnows 56 = .ok (.getfield 104, 3) := by decide +kernel
theorem dX1_readKnows_59 : decode cX1_readKnows 59 = .ok (.iload_n 1, 1) := by decide +kernel
theorem dX1_readKnows_60 : decode cX1_readKnows 60 = .ok (.dup2, 1) := by decide +kernel
theorem dX1_readKnows_61 : decode cX1_readKnows 61 = .ok (.iaload, 1) := by decide +kernel
theorem dX1_readKnows_62 : decode cX1_readKnows 62 = .ok (.iconst 1, 1) := by decide +kernel
theorem dX1_readKnows_63 : decode cX1_readKnows 63 = .ok (.iload_n 2, 1) := by decide +kernel
theorem dX1_readKnows_64 : decode cX1_readKnows 64 = .ok (.ishl, 1) := by decide +kernel
theorem dX1_readKnows_65 : decode cX1_readKnows 65 = .ok (.ior, 1) := by decide +kernel
theorem dX1_readKnows_66 : decode cX1_readKnows 66 = .ok (.iastore, 1) := by decide +kernel
theorem dX1_readKnows_67 : decode cX1_readKnows 67 = .ok (.iconst 1, 1) := by decide +kernel
theorem dX1_readKnows_68 : decode cX1_readKnows 68 = .ok (.ireturn, 1) := by decide +kernel
theorem dX2_init_0 : decode cX2_init 0 = .ok (.aload_n 0, 1) := by decide +kernel
theorem dX2_init_1 : decode cX2_init 1 = .ok (.invokespecial 3, 3) := by decide +kernel
theorem dX2_init_4 : decode cX2_init 4 = .ok (.aload_n 0, 1) := by decide +kernel
theorem dX2_init_5 : decode cX2_init 5 = .ok (.new 9, 3) := by decide +kernel
theorem dX2_init_8 : decode cX2_init 8 = .ok (.dup, 1) := by decide +kernel
theorem dX2_init_9 : decode cX2_init 9 = .ok (.invokespecial 11, 3) := by decide +kernel
theorem dX2_init_12 : decode cX2_init 12 = .ok (.putfield 12, 3) := by decide +kernel
theorem dX2_init_15 : decode cX2_init 15 = .ok (.aload_n 0, 1) := by decide +kernel
theorem dX2_init_16 : decode cX2_init 16 = .ok (.new 18, 3) := by decide +kernel
theorem dX2_init_19 : decode cX2_init 19 = .ok (.dup, 1) := by decide +kernel
theorem dX2_init_20 : decode cX2_init 20 = .ok (.invokespecial 20, 3) := by decide +kernel
theorem dX2_init_23 : decode cX2_init 23 = .ok (.putfield 21, 3) := by decide +kernel
theorem dX2_init_26 : decode cX2_init 26 = .ok (.aload_n 0, 1) := by decide +kernel
theorem dX2_init_27 : decode cX2_init 27 = .ok (.bipush 10, 2) := by decide +kernel
theorem dX2_init_29 : decode cX2_init 29 = .ok (.newarray .int, 2) := by decide +kernel
theorem dX2_init_31 : decode cX2_init 31 = .ok (.putfield 25, 3) := by decide +kernel
theorem dX2_init_34 : decode cX2_init 34 = .ok (.aload_n 0, 1) := by decide +kernel
theorem dX2_init_35 : decode cX2_init 35 = .ok (.bipush 10, 2) := by decide +kernel
theorem dX2_init_37 : decode cX2_init 37 = .ok (.newarray .int, 2) := by decide +kernel
theorem dX2_init_39 : decode cX2_init 39 = .ok (.putfield 29, 3) := by decide +kernel
theorem dX2_init_42 : decode cX2_init 42 = .ok (.aload_n 0, 1) := by decide +kernel
theorem dX2_init_43 : decode cX2_init 43 = .ok (.bipush 10, 2) := by decide +kernel
theorem dX2_init_45 : decode cX2_init 45 = .ok (.newarray .int, 2) := by decide +kernel
theorem dX2_init_47 : decode cX2_init 47 = .ok (.putfield 32, 3) := by decide +kernel
theorem dX2_init_50 : decode cX2_init 50 = .ok (.aload_n 0, 1) := by decide +kernel
theorem dX2_init_51 : decode cX2_init 51 = .ok (.iconst (-1), 1) := by decide +kernel
theorem dX2_init_52 : decode cX2_init 52 = .ok (.putfield 35, 3) := by decide +kernel
theorem dX2_init_55 : decode cX2_init 55 = .ok (.aload_n 0, 1) := by decide +kernel
theorem dX2_init_56 : decode cX2_init 56 = .ok (.sipush 380, 3) := by decide +kernel
theorem dX2_init_59 : decode cX2_init 59 = .ok (.newarray .int, 2) := by decide +kernel
theorem dX2_init_61 : decode cX2_init 61 = .ok (.putfield 39, 3) := by decide +kernel
theorem dX2_init_64 : decode cX2_init 64 = .ok (.return_, 1) := by decide +kernel
theorem dX2_open_0 : decode cX2_open 0 = .ok (.aload_n 0, 1) := by decide +kernel
theorem dX2_open_1 : decode cX2_open 1 = .ok (.getfield 12, 3) := by decide +kernel
theorem dX2_open_4 : decode cX2_open 4 = .ok (.aload_n 1, 1) := by decide +kernel
theorem dX2_open_5 : decode cX2_open 5 = .ok (.invokevirtual 42, 3) := by decide +kernel
theorem dX2_open_8 : decode cX2_open 8 = .ok (.aload_n 0, 1) := by decide +kernel
theorem dX2_open_9 : decode cX2_open 9 = .ok (.getfield 12, 3) := by decide +kernel
theorem dX2_open_12 : decode cX2_open 12 = .ok (.iconst 1, 1) := by decide +kernel
theorem dX2_open_13 : decode cX2_open 13 = .ok (.putfield 46, 3) := by decide +kernel
theorem dX2_open_16 : decode cX2_open 16 = .ok (.aload_n 0, 1) := by decide +kernel
theorem dX2_open_17 : decode cX2_open 17 = .ok (.getfield 21, 3) := by decide +kernel
theorem dX2_open_20 : decode cX2_open 20 = .ok (.aload_n 0, 1) := by decide +kernel
theorem dX2_open_21 : decode cX2_open 21 = .ok (.getfield 12, 3) := by decide +kernel
theorem dX2_open_24 : decode cX2_open 24 = .ok (.invokevirtual 50, 3) := by decide +kernel
theorem dX2_open_27 : decode cX2_open 27 = .ok (.aload_n 0, 1) := by decide +kernel
theorem dX2_open_28 : decode cX2_open 28 = .ok (.iconst 0, 1) := by decide +kernel
theorem dX2_open_29 : decode cX2_open 29 = .ok (.putfield 53, 3) := by decide +kernel
theorem dX2_open_32 : decode cX2_open 32 = .ok (.aload_n 0, 1) := by decide +kernel
theorem dX2_open_33 : decode cX2_open 33 = .ok (.iconst 0, 1) := by decide +kernel
theorem dX2_open_34 : decode cX2_open 34 = .ok (.putfield 56, 3) := by decide +kernel
theorem dX2_open_37 : decode cX2_open 37 = .ok (.return_, 1) := by decide +kernel
theorem dX2_keepAct_0 : decode cX2_keepAct 0 = .ok (.aload_n 0, 1) := by decide +kernel
theorem dX2_keepAct_1 : decode cX2_keepAct 1 = .ok (.getfield 21, 3) := by decide +kernel
theorem dX2_keepAct_4 : decode cX2_keepAct 4 = .ok (.aload_n 0, 1) := by decide +kernel
theorem dX2_keepAct_5 : decode cX2_keepAct 5 = .ok (.getfield 39, 3) := by decide +kernel
theorem dX2_keepAct_8 : decode cX2_keepAct 8 = .ok (.aload_n 0, 1) := by decide +kernel
theorem dX2_keepAct_9 : decode cX2_keepAct 9 = .ok (.getfield 59, 3) := by decide +kernel
theorem dX2_keepAct_12 : decode cX2_keepAct 12 = .ok (.bipush 19, 2) := by decide +kernel
theorem dX2_keepAct_14 : decode cX2_keepAct 14 = .ok (.imul, 1) := by decide +kernel
theorem dX2_keepAct_15 : decode cX2_keepAct 15 = .ok (.invokevirtual 62, 3) := by decide +kernel
theorem dX2_keepAct_18 : decode cX2_keepAct 18 = .ok (.aload_n 0, 1) := by decide +kernel
theorem dX2_keepAct_19 : decode cX2_keepAct 19 = .ok (.aload_n 0, 1) := by decide +kernel
theorem dX2_keepAct_20 : decode cX2_keepAct 20 = .ok (.getfield 59, 3) := by decide +kernel
theorem dX2_keepAct_23 : decode cX2_keepAct 23 = .ok (.iconst 1, 1) := by decide +kernel
theorem dX2_keepAct_24 : decode cX2_keepAct 24 = .ok (.iadd, 1) := by decide +kernel
theorem dX2_keepAct_25 : decode cX2_keepAct 25 = .ok (.bipush 20, 2) := by decide +kernel
theorem dX2_keepAct_27 : decode cX2_keepAct 27 = .ok (.irem, 1) := by decide +kernel
theorem dX2_keepAct_28 : decode cX2_keepAct 28 = .ok (.putfield 59, 3) := by decide +kernel
theorem dX2_keepAct_31 : decode cX2_keepAct 31 = .ok (.aload_n 0, 1) := by decide +kernel
theorem dX2_keepAct_32 : decode cX2_keepAct 32 = .ok (.bipush 20, 2) := by decide +kernel
theorem dX2_keepAct_34 : decode cX2_keepAct 34 = .ok (.aload_n 0, 1) := by decide +kernel
theorem dX2_keepAct_35 : decode cX2_keepAct 35 = .ok (.getfield 56, 3) := by decide +kernel
theorem dX2_keepAct_38 : decode cX2_keepAct 38 = .ok (.iconst 1, 1) := by decide +kernel
theorem dX2_keepAct_39 : decode cX2_keepAct 39 = .ok (.iadd, 1) := by decide +kernel
theorem dX2_keepAct_40 : decode cX2_keepAct 40 = .ok (.invokestatic 66, 3) := by decide +kernel
theorem dX2_keepAct_43 : decode cX2_keepAct 43 = .ok (.putfield 56, 3) := by decide +kernel
theorem dX2_keepAct_46 : decode cX2_keepAct 46 = .ok (.return_, 1) := by decide +kernel
theorem dX2_undoAct_0 : decode cX2_undoAct 0 = .ok (.aload_n 0, 1) := by decide +kernel
theorem dX2_undoAct_1 : decode cX2_undoAct 1 = .ok (.getfield 56, 3) := by decide +kernel
theorem dX2_undoAct_4 : decode cX2_undoAct 4 = .ok (.ifCond .ne 5, 3) := by decide +kernel
theorem dX2_undoAct_7 : decode cX2_undoAct 7 = .ok (.iconst 0, 1) := by decide +kernel
theorem dX2_undoAct_8 : decode cX2_undoAct 8 = .ok (.ireturn, 1) := by decide +kernel
theorem dX2_undoAct_9 : decode cX2_undoAct 9 = .ok (.aload_n 0, 1) := by decide +kernel
theorem dX2_undoAct_10 : decode cX2_undoAct 10 = .ok (.dup, 1) := by decide +kernel
theorem dX2_undoAct_11 : decode cX2_undoAct 11 = .ok (.getfield 56, 3) := by decide +kernel
theorem dX2_undoAct_14 : decode cX2_undoAct 14 = .ok (.iconst 1, 1) := by decide +kernel
theorem dX2_undoAct_15 : decode cX2_undoAct 15 = .ok (.isub, 1) := by decide +kernel
theorem dX2_undoAct_16 : decode cX2_undoAct 16 = .ok (.putfield 56, 3) := by decide +kernel
theorem dX2_undoAct_19 : decode cX2_undoAct 19 = .ok (.aload_n 0, 1) := by decide +kernel
theorem dX2_undoAct_20 : decode cX2_undoAct 20 = .ok (.aload_n 0, 1) := by decide +kernel
theorem dX2_undoAct_21 : decode cX2_undoAct 21 = .ok (.getfield 59, 3) := by decide +kernel
theorem dX2_undoAct_24 : decode cX2_undoAct 24 = .ok (.bipush 20, 2) := by decide +kernel
theorem dX2_undoAct_26 : decode cX2_undoAct 26 = .ok (.iadd, 1) := by decide +kernel
theorem dX2_undoAct_27 : decode cX2_undoAct 27 = .ok (.iconst 1, 1) := by decide +kernel
theorem dX2_undoAct_28 : decode cX2_undoAct 28 = .ok (.isub, 1) := by decide +kernel
theorem dX2_undoAct_29 : decode cX2_undoAct 29 = .ok (.bipush 20, 2) := by decide +kernel
theorem dX2_undoAct_31 : decode cX2_undoAct 31 = .ok (.irem, 1) := by decide +kernel
theorem dX2_undoAct_32 : decode cX2_undoAct 32 = .ok (.putfield 59, 3) := by decide +kernel
theorem dX2_undoAct_35 : decode cX2_undoAct 35 = .ok (.aload_n 0, 1) := by decide +kernel
theorem dX2_undoAct_36 : decode cX2_undoAct 36 = .ok (.getfield 21, 3) := by decide +kernel
theorem dX2_undoAct_39 : decode cX2_undoAct 39 = .ok (.aload_n 0, 1) := by decide +kernel
theorem dX2_undoAct_40 : decode cX2_undoAct 40 = .ok (.getfield 39, 3) := by decide +kernel
theorem dX2_undoAct_43 : decode cX2_undoAct 43 = .ok (.aload_n 0, 1) := by decide +kernel
theorem dX2_undoAct_44 : decode cX2_undoAct 44 = .ok (.getfield 59, 3) := by decide +kernel
theorem dX2_undoAct_47 : decode cX2_undoAct 47 = .ok (.bipush 19, 2) := by decide +kernel
theorem dX2_undoAct_49 : decode cX2_undoAct 49 = .ok (.imul, 1) := by decide +kernel
theorem dX2_undoAct_50 : decode cX2_undoAct 50 = .ok (.invokevirtual 72, 3) := by decide +kernel
theorem dX2_undoAct_53 : decode cX2_undoAct 53 = .ok (.iconst 1, 1) := by decide +kernel
theorem dX2_undoAct_54 : decode cX2_undoAct 54 = .ok (.ireturn, 1) := by decide +kernel
theorem dX2_addNote_0 : decode cX2_addNote 0 = .ok (.aload_n 0, 1) := by decide +kernel
theorem dX2_addNote_1 : decode cX2_addNote 1 = .ok (.getfield 25, 3) := by decide +kernel
theorem dX2_addNote_4 : decode cX2_addNote 4 = .ok (.aload_n 0, 1) := by decide +kernel
theorem dX2_addNote_5 : decode cX2_addNote 5 = .ok (.getfield 53, 3) := by decide +kernel
theorem dX2_addNote_8 : decode cX2_addNote 8 = .ok (.iload_n 1, 1) := by decide +kernel
theorem dX2_addNote_9 : decode cX2_addNote 9 = .ok (.iastore, 1) := by decide +kernel
theorem dX2_addNote_10 : decode cX2_addNote 10 = .ok (.aload_n 0, 1) := by decide +kernel
theorem dX2_addNote_11 : decode cX2_addNote 11 = .ok (.getfield 29, 3) := by decide +kernel
theorem dX2_addNote_14 : decode cX2_addNote 14 = .ok (.aload_n 0, 1) := by decide +kernel
theorem dX2_addNote_15 : decode cX2_addNote 15 = .ok (.getfield 53, 3) := by decide +kernel
theorem dX2_addNote_18 : decode cX2_addNote 18 = .ok (.iload_n 2, 1) := by decide +kernel
theorem dX2_addNote_19 : decode cX2_addNote 19 = .ok (.iastore, 1) := by decide +kernel
theorem dX2_addNote_20 : decode cX2_addNote 20 = .ok (.aload_n 0, 1) := by decide +kernel
theorem dX2_addNote_21 : decode cX2_addNote 21 = .ok (.getfield 32, 3) := by decide +kernel
theorem dX2_addNote_24 : decode cX2_addNote 24 = .ok (.aload_n 0, 1) := by decide +kernel
theorem dX2_addNote_25 : decode cX2_addNote 25 = .ok (.getfield 53, 3) := by decide +kernel
theorem dX2_addNote_28 : decode cX2_addNote 28 = .ok (.iload_n 3, 1) := by decide +kernel
theorem dX2_addNote_29 : decode cX2_addNote 29 = .ok (.iastore, 1) := by decide +kernel
theorem dX2_addNote_30 : decode cX2_addNote 30 = .ok (.aload_n 0, 1) := by decide +kernel
theorem dX2_addNote_31 : decode cX2_addNote 31 = .ok (.dup, 1) := by decide +kernel
theorem dX2_addNote_32 : decode cX2_addNote 32 = .ok (.getfield 53, 3) := by decide +kernel
theorem dX2_addNote_35 : decode cX2_addNote 35 = .ok (.iconst 1, 1) := by decide +kernel
theorem dX2_addNote_36 : decode cX2_addNote 36 = .ok (.iadd, 1) := by decide +kernel
theorem dX2_addNote_37 : decode cX2_addNote 37 = .ok (.putfield 53, 3) := by decide +kernel
theorem dX2_addNote_40 : decode cX2_addNote 40 = .ok (.return_, 1) := by decide +kernel
theorem dX2_copyFrom_0 : decode cX2_copyFrom 0 = .ok (.aload_n 0, 1) := by decide +kernel
theorem dX2_copyFrom_1 : decode cX2_copyFrom 1 = .ok (.getfield 12, 3) := by decide +kernel
theorem dX2_copyFrom_4 : decode cX2_copyFrom 4 = .ok (.aload_n 1, 1) := by decide +kernel
theorem dX2_copyFrom_5 : decode cX2_copyFrom 5 = .ok (.getfield 12, 3) := by decide +kernel
theorem dX2_copyFrom_8 : decode cX2_copyFrom 8 = .ok (.invokevirtual 42, 3) := by decide +kernel
theorem dX2_copyFrom_11 : decode cX2_copyFrom 11 = .ok (.aload_n 0, 1) := by decide +kernel
theorem dX2_copyFrom_12 : decode cX2_copyFrom 12 = .ok (.getfield 21, 3) := by decide +kernel
theorem dX2_copyFrom_15 : decode cX2_copyFrom 15 = .ok (.aload_n 1, 1) := by decide +kernel
theorem dX2_copyFrom_16 : decode cX2_copyFrom 16 = .ok (.getfield 21, 3) := by decide +kernel
theorem dX2_copyFrom_19 : decode cX2_copyFrom 19 = .ok (.invokevirtual 75, 3) := by decide +kernel
theorem dX2_copyFrom_22 : decode cX2_copyFrom 22 = .ok (.aload_n 1, 1) := by decide +kernel
theorem dX2_copyFrom_23 : decode cX2_copyFrom 23 = .ok (.getfield 25, 3) := by decide +kernel
theorem dX2_copyFrom_26 : decode cX2_copyFrom 26 = .ok (.iconst 0, 1) := by decide +kernel
theorem dX2_copyFrom_27 : decode cX2_copyFrom 27 = .ok (.aload_n 0, 1) := by decide +kernel
theorem dX2_copyFrom_28 : decode cX2_copyFrom 28 = .ok (.getfield 25, 3) := by decide +kernel
theorem dX2_copyFrom_31 : decode cX2_copyFrom 31 = .ok (.iconst 0, 1) := by decide +kernel
theorem dX2_copyFrom_32 : decode cX2_copyFrom 32 = .ok (.bipush 10, 2) := by decide +kernel
theorem dX2_copyFrom_34 : decode cX2_copyFrom 34 = .ok (.invokestatic 78, 3) := by decide +kernel
theorem dX2_copyFrom_37 : decode cX2_copyFrom 37 = .ok (.aload_n 1, 1) := by decide +kernel
theorem dX2_copyFrom_38 : decode cX2_copyFrom 38 = .ok (.getfield 29, 3) := by decide +kernel
theorem dX2_copyFrom_41 : decode cX2_copyFrom 41 = .ok (.iconst 0, 1) := by decide +kernel
theorem dX2_copyFrom_42 : decode cX2_copyFrom 42 = .ok (.aload_n 0, 1) := by decide +kernel
theorem dX2_copyFrom_43 : decode cX2_copyFrom 43 = .ok (.getfield 29, 3) := by decide +kernel
theorem dX2_copyFrom_46 : decode cX2_copyFrom 46 = .ok (.iconst 0, 1) := by decide +kernel
theorem dX2_copyFrom_47 : decode cX2_copyFrom 47 = .ok (.bipush 10, 2) := by decide +kernel
theorem dX2_copyFrom_49 : decode cX2_copyFrom 49 = .ok (.invokestatic 78, 3) := by decide +kernel
theorem dX2_copyFrom_52 : decode cX2_copyFrom 52 = .ok (.aload_n 1, 1) := by decide +kernel
theorem dX2_copyFrom_53 : decode cX2_copyFrom 53 = .ok (.getfield 32, 3) := by decide +kernel
theorem dX2_copyFrom_56 : decode cX2_copyFrom 56 = .ok (.iconst 0, 1) := by decide +kernel
theorem dX2_copyFrom_57 : decode cX2_copyFrom 57 = .ok (.aload_n 0, 1) := by decide +kernel
theorem dX2_copyFrom_58 : decode cX2_copyFrom 58 = .ok (.getfield 32, 3) := by decide +kernel
theorem dX2_copyFrom_61 : decode cX2_copyFrom 61 = .ok (.iconst 0, 1) := by decide +kernel
theorem dX2_copyFrom_62 : decode cX2_copyFrom 62 = .ok (.bipush 10, 2) := by decide +kernel
theorem dX2_copyFrom_64 : decode cX2_copyFrom 64 = .ok (.invokestatic 78, 3) := by decide +kernel
theorem dX2_copyFrom_67 : decode cX2_copyFrom 67 = .ok (.aload_n 1, 1) := by decide +kernel
theorem dX2_copyFrom_68 : decode cX2_copyFrom 68 = .ok (.getfield 39, 3) := by decide +kernel
theorem dX2_copyFrom_71 : decode cX2_copyFrom 71 = .ok (.iconst 0, 1) := by decide +kernel
theorem dX2_copyFrom_72 : decode cX2_copyFrom 72 = .ok (.aload_n 0, 1) := by decide +kernel
theorem dX2_copyFrom_73 : decode cX2_copyFrom 73 = .ok (.getfield 39, 3) := by decide +kernel
theorem dX2_copyFrom_76 : decode cX2_copyFrom 76 = .ok (.iconst 0, 1) := by decide +kernel
theorem dX2_copyFrom_77 : decode cX2_copyFrom 77 = .ok (.aload_n 0, 1) := by decide +kernel
theorem dX2_copyFrom_78 : decode cX2_copyFrom 78 = .ok (.getfield 39, 3) := by decide +kernel
theorem dX2_copyFrom_81 : decode cX2_copyFrom 81 = .ok (.arraylength, 1) := by decide +kernel
theorem dX2_copyFrom_82 : decode cX2_copyFrom 82 = .ok (.invokestatic 78, 3) := by decide +kernel
theorem dX2_copyFrom_85 : decode cX2_copyFrom 85 = .ok (.aload_n 0, 1) := by decide +kernel
theorem dX2_copyFrom_86 : decode cX2_copyFrom 86 = .ok (.aload_n 1, 1) := by decide +kernel
theorem dX2_copyFrom_87 : decode cX2_copyFrom 87 = .ok (.getfield 53, 3) := by decide +kernel
theorem dX2_copyFrom_90 : decode cX2_copyFrom 90 = .ok (.putfield 53, 3) := by decide +kernel
theorem dX2_copyFrom_93 : decode cX2_copyFrom 93 = .ok (.aload_n 0, 1) := by decide +kernel
theorem dX2_copyFrom_94 : decode cX2_copyFrom 94 = .ok (.aload_n 1, 1) := by decide +kernel
theorem dX2_copyFrom_95 : decode cX2_copyFrom 95 = .ok (.getfield 56, 3) := by decide +kernel
theorem dX2_copyFrom_98 : decode cX2_copyFrom 98 = .ok (.putfield 56, 3) := by decide +kernel
theorem dX2_copyFrom_101 : decode cX2_copyFrom 101 = .ok (.aload_n 0, 1) := by decide +kernel
theorem dX2_copyFrom_102 : decode cX2_copyFrom 102 = .ok (.aload_n 1, 1) := by decide +kernel
theorem dX2_copyFrom_103 : decode cX2_copyFrom 103 = .ok (.getfield 84, 3) := by decide +kernel
theorem dX2_copyFrom_106 : decode cX2_copyFrom 106 = .ok (.putfield 84, 3) := by decide +kernel
theorem dX2_copyFrom_109 : decode cX2_copyFrom 109 = .ok (.aload_n 0, 1) := by decide +kernel
theorem dX2_copyFrom_110 : decode cX2_copyFrom 110 = .ok (.aload_n 1, 1) := by decide +kernel
theorem dX2_copyFrom_111 : decode cX2_copyFrom 111 = .ok (.getfield 35, 3) := by decide +kernel
theorem dX2_copyFrom_114 : decode cX2_copyFrom 114 = .ok (.putfield 35, 3) := by decide +kernel
theorem dX2_copyFrom_117 : decode cX2_copyFrom 117 = .ok (.aload_n 0, 1) := by decide +kernel
theorem dX2_copyFrom_118 : decode cX2_copyFrom 118 = .ok (.aload_n 1, 1) := by decide +kernel
theorem dX2_copyFrom_119 : decode cX2_copyFrom 119 = .ok (.getfield 59, 3) := by decide +kernel
theorem dX2_copyFrom_122 : decode cX2_copyFrom 122 = .ok (.putfield 59, 3) := by decide +kernel
theorem dX2_copyFrom_125 : decode cX2_copyFrom 125 = .ok (.return_, 1) := by decide +kernel
theorem dJ6_bitCount_0f7a4_0 : decode cJ6_bitCount_0f7a4 0 = .ok (.iload_n 0, 1) := by decide +kernel
theorem dJ6_bitCount_0f7a4_1 : decode cJ6_bitCount_0f7a4 1 = .ok (.iload_n 0, 1) := by decide +kernel
theorem dJ6_bitCount_0f7a4_2 : decode cJ6_bitCount_0f7a4 2 = .ok (.iconst 1, 1) := by decide +kernel
theorem dJ6_bitCount_0f7a4_3 : decode cJ6_bitCount_0f7a4 3 = .ok (.iushr, 1) := by decide +kernel
theorem dJ6_bitCount_0f7a4_4 : decode cJ6_bitCount_0f7a4 4 = .ok (.ldc_w 265, 3) := by decide +kernel
theorem dJ6_bitCount_0f7a4_7 : decode cJ6_bitCount_0f7a4 7 = .ok (.iand, 1) := by decide +kernel
theorem dJ6_bitCount_0f7a4_8 : decode cJ6_bitCount_0f7a4 8 = .ok (.isub, 1) := by decide +kernel
theorem dJ6_bitCount_0f7a4_9 : decode cJ6_bitCount_0f7a4 9 = .ok (.istore_n 0, 1) := by decide +kernel
theorem dJ6_bitCount_0f7a4_10 : decode cJ6_bitCount_0f7a4 10 = .ok (.iload_n 0, 1) := by decide +kernel
theorem dJ6_bitCount_0f7a4_11 : decode cJ6_bitCount_0f7a4 11 = .ok (.ldc_w 266, 3) := by decide +kernel
theorem dJ6_bitCount_0f7a4_14 : decode cJ6_bitCount_0f7a4 14 = .ok (.iand, 1) := by decide +kernel
theorem dJ6_bitCount_0f7a4_15 : decode cJ6_bitCount_0f7a4 15 = .ok (.iload_n 0, 1) := by decide +kernel
theorem dJ6_bitCount_0f7a4_16 : decode cJ6_bitCount_0f7a4 16 = .ok (.iconst 2, 1) := by decide +kernel
theorem dJ6_bitCount_0f7a4_17 : decode cJ6_bitCount_0f7a4 17 = .ok (.iushr, 1) := by decide +kernel
theorem dJ6_bitCount_0f7a4_18 : decode cJ6_bitCount_0f7a4 18 = .ok (.ldc_w 266, 3) := by decide +kernel
theorem dJ6_bitCount_0f7a4_21 : decode cJ6_bitCount_0f7a4 21 = .ok (.iand, 1) := by decide +kernel
theorem dJ6_bitCount_0f7a4_22 : decode cJ6_bitCount_0f7a4 22 = .ok (.iadd, 1) := by decide +kernel
theorem dJ6_bitCount_0f7a4_23 : decode cJ6_bitCount_0f7a4 23 = .ok (.istore_n 0, 1) := by decide +kernel
theorem dJ6_bitCount_0f7a4_24 : decode cJ6_bitCount_0f7a4 24 = .ok (.iload_n 0, 1) := by decide +kernel
theorem dJ6_bitCount_0f7a4_25 : decode cJ6_bitCount_0f7a4 25 = .ok (.iload_n 0, 1) := by decide +kernel
theorem dJ6_bitCount_0f7a4_26 : decode cJ6_bitCount_0f7a4 26 = .ok (.iconst 4, 1) := by decide +kernel
theorem dJ6_bitCount_0f7a4_27 : decode cJ6_bitCount_0f7a4 27 = .ok (.iushr, 1) := by decide +kernel
theorem dJ6_bitCount_0f7a4_28 : decode cJ6_bitCount_0f7a4 28 = .ok (.iadd, 1) := by decide +kernel
theorem dJ6_bitCount_0f7a4_29 : decode cJ6_bitCount_0f7a4 29 = .ok (.ldc_w 267, 3) := by decide +kernel
theorem dJ6_bitCount_0f7a4_32 : decode cJ6_bitCount_0f7a4 32 = .ok (.iand, 1) := by decide +kernel
theorem dJ6_bitCount_0f7a4_33 : decode cJ6_bitCount_0f7a4 33 = .ok (.istore_n 0, 1) := by decide +kernel
theorem dJ6_bitCount_0f7a4_34 : decode cJ6_bitCount_0f7a4 34 = .ok (.iload_n 0, 1) := by decide +kernel
theorem dJ6_bitCount_0f7a4_35 : decode cJ6_bitCount_0f7a4 35 = .ok (.iload_n 0, 1) := by decide +kernel
theorem dJ6_bitCount_0f7a4_36 : decode cJ6_bitCount_0f7a4 36 = .ok (.bipush 8, 2) := by decide +kernel
theorem dJ6_bitCount_0f7a4_38 : decode cJ6_bitCount_0f7a4 38 = .ok (.iushr, 1) := by decide +kernel
theorem dJ6_bitCount_0f7a4_39 : decode cJ6_bitCount_0f7a4 39 = .ok (.iadd, 1) := by decide +kernel
theorem dJ6_bitCount_0f7a4_40 : decode cJ6_bitCount_0f7a4 40 = .ok (.istore_n 0, 1) := by decide +kernel
theorem dJ6_bitCount_0f7a4_41 : decode cJ6_bitCount_0f7a4 41 = .ok (.iload_n 0, 1) := by decide +kernel
theorem dJ6_bitCount_0f7a4_42 : decode cJ6_bitCount_0f7a4 42 = .ok (.iload_n 0, 1) := by decide +kernel
theorem dJ6_bitCount_0f7a4_43 : decode cJ6_bitCount_0f7a4 43 = .ok (.bipush 16, 2) := by decide +kernel
theorem dJ6_bitCount_0f7a4_45 : decode cJ6_bitCount_0f7a4 45 = .ok (.iushr, 1) := by decide +kernel
theorem dJ6_bitCount_0f7a4_46 : decode cJ6_bitCount_0f7a4 46 = .ok (.iadd, 1) := by decide +kernel
theorem dJ6_bitCount_0f7a4_47 : decode cJ6_bitCount_0f7a4 47 = .ok (.istore_n 0, 1) := by decide +kernel
theorem dJ6_bitCount_0f7a4_48 : decode cJ6_bitCount_0f7a4 48 = .ok (.iload_n 0, 1) := by decide +kernel
theorem dJ6_bitCount_0f7a4_49 : decode cJ6_bitCount_0f7a4 49 = .ok (.bipush 63, 2) := by decide +kernel
theorem dJ6_bitCount_0f7a4_51 : decode cJ6_bitCount_0f7a4 51 = .ok (.iand, 1) := by decide +kernel
theorem dJ6_bitCount_0f7a4_52 : decode cJ6_bitCount_0f7a4 52 = .ok (.ireturn, 1) := by decide +kernel
theorem dJ9_max_7cf53_0 : decode cJ9_max_7cf53 0 = .ok (.iload_n 0, 1) := by decide +kernel
theorem dJ9_max_7cf53_1 : decode cJ9_max_7cf53 1 = .ok (.iload_n 1, 1) := by decide +kernel
theorem dJ9_max_7cf53_2 : decode cJ9_max_7cf53 2 = .ok (.if_icmp .lt 7, 3) := by decide +kernel
theorem dJ9_max_7cf53_5 : decode cJ9_max_7cf53 5 = .ok (.iload_n 0, 1) := by decide +kernel
theorem dJ9_max_7cf53_6 : decode cJ9_max_7cf53 6 = .ok (.goto 4, 3) := by decide +kernel
theorem dJ9_max_7cf53_9 : decode cJ9_max_7cf53 9 = .ok (.iload_n 1, 1) := by decide +kernel
theorem dJ9_max_7cf53_10 : decode cJ9_max_7cf53 10 = .ok (.ireturn, 1) := by decide +kernel
theorem dJ9_min_7cf53_0 : decode cJ9_min_7cf53 0 = .ok (.iload_n 0, 1) := by decide +kernel
theorem dJ9_min_7cf53_1 : decode cJ9_min_7cf53 1 = .ok (.iload_n 1, 1) := by decide +kernel
theorem dJ9_min_7cf53_2 : decode cJ9_min_7cf53 2 = .ok (.if_icmp .gt 7, 3) := by decide +kernel
theorem dJ9_min_7cf53_5 : decode cJ9_min_7cf53 5 = .ok (.iload_n 0, 1) := by decide +kernel
theorem dJ9_min_7cf53_6 : decode cJ9_min_7cf53 6 = .ok (.goto 4, 3) := by decide +kernel
theorem dJ9_min_7cf53_9 : decode cJ9_min_7cf53 9 = .ok (.iload_n 1, 1) := by decide +kernel
theorem dJ9_min_7cf53_10 : decode cJ9_min_7cf53 10 = .ok (.ireturn, 1) := by decide +kernel
theorem dJ0_length_8abf5_0 : decode cJ0_length_8abf5 0 = .ok (.aload_n 0, 1) := by decide +kernel
theorem dJ0_length_8abf5_1 : decode cJ0_length_8abf5 1 = .ok (.getfield 9, 3) := by decide +kernel
theorem dJ0_length_8abf5_4 : decode cJ0_length_8abf5 4 = .ok (.arraylength, 1) := by decide +kernel
theorem dJ0_length_8abf5_5 : decode cJ0_length_8abf5 5 = .ok (.aload_n 0, 1) := by decide +kernel
theorem dJ0_length_8abf5_6 : decode cJ0_length_8abf5 6 = .ok (.invokevirtual 335, 3) := by decide +kernel
theorem dJ0_length_8abf5_9 : decode cJ0_length_8abf5 9 = .ok (.ishr, 1) := by decide +kernel
theorem dJ0_length_8abf5_10 : decode cJ0_length_8abf5 10 = .ok (.ireturn, 1) := by decide +kernel
theorem dJ0_charAt_5068e_0 : decode cJ0_charAt_5068e 0 = .ok (.aload_n 0, 1) := by decide +kernel
theorem dJ0_charAt_5068e_1 : decode cJ0_charAt_5068e 1 = .ok (.invokevirtual 492, 3) := by decide +kernel
theorem dJ0_charAt_5068e_4 : decode cJ0_charAt_5068e 4 = .ok (.ifCond .eq 12, 3) := by decide +kernel
theorem dJ0_charAt_5068e_7 : decode cJ0_charAt_5068e 7 = .ok (.aload_n 0, 1) := by decide +kernel
theorem dJ0_charAt_5068e_8 : decode cJ0_charAt_5068e 8 = .ok (.getfield 9, 3) := by decide +kernel
theorem dJ0_charAt_5068e_11 : decode cJ0_charAt_5068e 11 = .ok (.iload_n 1, 1) := by decide +kernel
theorem dJ0_charAt_5068e_12 : decode cJ0_charAt_5068e 12 = .ok (.invokestatic 495, 3) := by decide +kernel
theorem dJ0_charAt_5068e_15 : decode cJ0_charAt_5068e 15 = .ok (.ireturn, 1) := by decide +kernel
theorem dJ0_charAt_5068e_16 : decode cJ0_charAt_5068e 16 = .ok (.aload_n 0, 1) := by decide +kernel
theorem dJ0_charAt_5068e_17 : decode cJ0_charAt_5068e 17 = .ok (.getfield 9, 3) := by decide +kernel
theorem dJ0_charAt_5068e_20 : decode cJ0_charAt_5068e 20 = .ok (.iload_n 1, 1) := by decide +kernel
theorem dJ0_charAt_5068e_21 : decode cJ0_charAt_5068e 21 = .ok (.invokestatic 498, 3) := by decide +kernel
theorem dJ0_charAt_5068e_24 : decode cJ0_charAt_5068e 24 = .ok (.ireturn, 1) := by decide +kernel
theorem dJ0_coder_7d493_0 : decode cJ0_coder_7d493 0 = .ok (.getstatic 38, 3) := by decide +kernel
theorem dJ0_coder_7d493_3 : decode cJ0_coder_7d493 3 = .ok (.ifCond .eq 10, 3) := by decide +kernel
theorem dJ0_coder_7d493_6 : decode cJ0_coder_7d493 6 = .ok (.aload_n 0, 1) := by decide +kernel
theorem dJ0_coder_7d493_7 : decode cJ0_coder_7d493 7 = .ok (.getfield 15, 3) := by decide +kernel
theorem dJ0_coder_7d493_10 : decode cJ0_coder_7d493 10 = .ok (.goto 4, 3) := by decide +kernel
theorem dJ0_coder_7d493_13 : decode cJ0_coder_7d493 13 = .ok (.iconst 1, 1) := by decide +kernel
theorem dJ0_coder_7d493_14 : decode cJ0_coder_7d493 14 = .ok (.ireturn, 1) := by decide +kernel
theorem dJ0_isLatin1_aae02_0 : decode cJ0_isLatin1_aae02 0 = .ok (.getstatic 38, 3) := by decide +kernel
theorem dJ0_isLatin1_aae02_3 : decode cJ0_isLatin1_aae02 3 = .ok (.ifCond .eq 14, 3) := by decide +kernel
theorem dJ0_isLatin1_aae02_6 : decode cJ0_isLatin1_aae02 6 = .ok (.aload_n 0, 1) := by decide +kernel
theorem dJ0_isLatin1_aae02_7 : decode cJ0_isLatin1_aae02 7 = .ok (.getfield 15, 3) := by decide +kernel
theorem dJ0_isLatin1_aae02_10 : decode cJ0_isLatin1_aae02 10 = .ok (.ifCond .ne 7, 3) := by decide +kernel
theorem dJ0_isLatin1_aae02_13 : decode cJ0_isLatin1_aae02 13 = .ok (.iconst 1, 1) := by decide +kernel
theorem dJ0_isLatin1_aae02_14 : decode cJ0_isLatin1_aae02 14 = .ok (.goto 4, 3) := by decide +kernel
theorem dJ0_isLatin1_aae02_17 : decode cJ0_isLatin1_aae02 17 = .ok (.iconst 0, 1) := by decide +kernel
theorem dJ0_isLatin1_aae02_18 : decode cJ0_isLatin1_aae02 18 = .ok (.ireturn, 1) := by decide +kernel
theorem dJ0_checkIndex_df160_0 : decode cJ0_checkIndex_df160 0 = .ok (.iload_n 0, 1) := by decide +kernel
theorem dJ0_checkIndex_df160_1 : decode cJ0_checkIndex_df160 1 = .ok (.iload_n 1, 1) := by decide +kernel
theorem dJ0_checkIndex_df160_2 : decode cJ0_checkIndex_df160 2 = .ok (.getstatic 1053, 3) := by decide +kernel
theorem dJ0_checkIndex_df160_5 : decode cJ0_checkIndex_df160 5 = .ok (.invokestatic 1059, 3) := by decide +kernel
theorem dJ0_checkIndex_df160_8 : decode cJ0_checkIndex_df160 8 = .ok (.pop, 1) := by decide +kernel
theorem dJ0_checkIndex_df160_9 : decode cJ0_checkIndex_df160 9 = .ok (.return_, 1) := by decide +kernel
theorem dJ1_charAt_3b067_0 : decode cJ1_charAt_3b067 0 = .ok (.iload_n 1, 1) := by decide +kernel
theorem dJ1_charAt_3b067_1 : decode cJ1_charAt_3b067 1 = .ok (.aload_n 0, 1) := by decide +kernel
theorem dJ1_charAt_3b067_2 : decode cJ1_charAt_3b067 2 = .ok (.arraylength, 1) := by decide +kernel
theorem dJ1_charAt_3b067_3 : decode cJ1_charAt_3b067 3 = .ok (.invokestatic 9, 3) := by decide +kernel
theorem dJ1_charAt_3b067_6 : decode cJ1_charAt_3b067 6 = .ok (.aload_n 0, 1) := by decide +kernel
theorem dJ1_charAt_3b067_7 : decode cJ1_charAt_3b067 7 = .ok (.iload_n 1, 1) := by decide +kernel
theorem dJ1_charAt_3b067_8 : decode cJ1_charAt_3b067 8 = .ok (.baload, 1) := by decide +kernel
theorem dJ1_charAt_3b067_9 : decode cJ1_charAt_3b067 9 = .ok (.sipush 255, 3) := by decide +kernel
theorem dJ1_charAt_3b067_12 : decode cJ1_charAt_3b067 12 = .ok (.iand, 1) := by decide +kernel
theorem dJ1_charAt_3b067_13 : decode cJ1_charAt_3b067 13 = .ok (.i2c, 1) := by decide +kernel
theorem dJ1_charAt_3b067_14 : decode cJ1_charAt_3b067 14 = .ok (.ireturn, 1) := by decide +kernel
theorem dJ2_getChar_3b067_0 : decode cJ2_getChar_3b067 0 = .ok (.getstatic 44, 3) := by decide +kernel
theorem dJ2_getChar_3b067_3 : decode cJ2_getChar_3b067 3 = .ok (.ifCond .ne 25, 3) := by decide +kernel
theorem dJ2_getChar_3b067_6 : decode cJ2_getChar_3b067 6 = .ok (.iload_n 1, 1) := by decide +kernel
theorem dJ2_getChar_3b067_7 : decode cJ2_getChar_3b067 7 = .ok (.ifCond .lt 11, 3) := by decide +kernel
theorem dJ2_getChar_3b067_10 : decode cJ2_getChar_3b067 10 = .ok (.iload_n 1, 1) := by decide +kernel
theorem dJ2_getChar_3b067_11 : decode cJ2_getChar_3b067 11 = .ok (.aload_n 0, 1) := by decide +kernel
theorem dJ2_getChar_3b067_12 : decode cJ2_getChar_3b067 12 = .ok (.invokestatic 48, 3) := by decide +kernel
theorem dJ2_getChar_3b067_15 : decode cJ2_getChar_3b067 15 = .ok (.if_icmp .lt 13, 3) := by decide +kernel
theorem dJ2_getChar_3b067_18 : decode cJ2_getChar_3b067 18 = .ok (.new 52, 3) := by decide +kernel
theorem dJ2_getChar_3b067_21 : decode cJ2_getChar_3b067 21 = .ok (.dup, 1) := by decide +kernel
theorem dJ2_getChar_3b067_22 : decode cJ2_getChar_3b067 22 = .ok (.ldc 54, 2) := by decide +kernel
theorem dJ2_getChar_3b067_24 : decode cJ2_getChar_3b067 24 = .ok (.invokespecial 56, 3) := by decide +kernel
theorem dJ2_getChar_3b067_27 : decode cJ2_getChar_3b067 27 = .ok (.athrow, 1) := by decide +kernel
theorem dJ2_getChar_3b067_28 : decode cJ2_getChar_3b067 28 = .ok (.iload_n 1, 1) := by decide +kernel
theorem dJ2_getChar_3b067_29 : decode cJ2_getChar_3b067 29 = .ok (.iconst 1, 1) := by decide +kernel
theorem dJ2_getChar_3b067_30 : decode cJ2_getChar_3b067 30 = .ok (.ishl, 1) := by decide +kernel
theorem dJ2_getChar_3b067_31 : decode cJ2_getChar_3b067 31 = .ok (.istore_n 1, 1) := by decide +kernel
theorem dJ2_getChar_3b067_32 : decode cJ2_getChar_3b067 32 = .ok (.aload_n 0, 1) := by decide +kernel
theorem dJ2_getChar_3b067_33 : decode cJ2_getChar_3b067 33 = .ok (.iload_n 1, 1) := by decide +kernel
theorem dJ2_getChar_3b067_34 : decode cJ2_getChar_3b067 34 = .ok (.iinc 1 1, 3) := by decide +kernel
theorem dJ2_getChar_3b067_37 : decode cJ2_getChar_3b067 37 = .ok (.baload, 1) := by decide +kernel
theorem dJ2_getChar_3b067_38 : decode cJ2_getChar_3b067 38 = .ok (.sipush 255, 3) := by decide +kernel
theorem dJ2_getChar_3b067_41 : decode cJ2_getChar_3b067 41 = .ok (.iand, 1) := by decide +kernel
theorem dJ2_getChar_3b067_42 : decode cJ2_getChar_3b067 42 = .ok (.getstatic 59, 3) := by decide +kernel
theorem dJ2_getChar_3b067_45 : decode cJ2_getChar_3b067 45 = .ok (.ishl, 1) := by decide +kernel
theorem dJ2_getChar_3b067_46 : decode cJ2_getChar_3b067 46 = .ok (.aload_n 0, 1) := by decide +kernel
theorem dJ2_getChar_3b067_47 : decode cJ2_getChar_3b067 47 = .ok (.iload_n 1, 1) := by decide +kernel
theorem dJ2_getChar_3b067_48 : decode cJ2_getChar_3b067 48 = .ok (.baload, 1) := by decide +kernel
theorem dJ2_getChar_3b067_49 : decode cJ2_getChar_3b067 49 = .ok (.sipush 255, 3) := by decide +kernel
theorem dJ2_getChar_3b067_52 : decode cJ2_getChar_3b067 52 = .ok (.iand, 1) := by decide +kernel
theorem dJ2_getChar_3b067_53 : decode cJ2_getChar_3b067 53 = .ok (.getstatic 63, 3) := by decide +kernel
theorem dJ2_getChar_3b067_56 : decode cJ2_getChar_3b067 56 = .ok (.ishl, 1) := by decide +kernel
theorem dJ2_getChar_3b067_57 : decode cJ2_getChar_3b067 57 = .ok (.ior, 1) := by decide +kernel
theorem dJ2_getChar_3b067_58 : decode cJ2_getChar_3b067 58 = .ok (.i2c, 1) := by decide +kernel
theorem dJ2_getChar_3b067_59 : decode cJ2_getChar_3b067 59 = .ok (.ireturn, 1) := by decide +kernel
theorem dJ2_length_9d52b_0 : decode cJ2_length_9d52b 0 = .ok (.aload_n 0, 1) := by decide +kernel
theorem dJ2_length_9d52b_1 : decode cJ2_length_9d52b 1 = .ok (.arraylength, 1) := by decide +kernel
theorem dJ2_length_9d52b_2 : decode cJ2_length_9d52b 2 = .ok (.iconst 1, 1) := by decide +kernel
theorem dJ2_length_9d52b_3 : decode cJ2_length_9d52b 3 = .ok (.ishr, 1) := by decide +kernel
theorem dJ2_length_9d52b_4 : decode cJ2_length_9d52b 4 = .ok (.ireturn, 1) := by decide +kernel
theorem dJ2_charAt_3b067_0 : decode cJ2_charAt_3b067 0 = .ok (.iload_n 1, 1) := by decide +kernel
theorem dJ2_charAt_3b067_1 : decode cJ2_charAt_3b067 1 = .ok (.aload_n 0, 1) := by decide +kernel
theorem dJ2_charAt_3b067_2 : decode cJ2_charAt_3b067 2 = .ok (.invokestatic 67, 3) := by decide +kernel
theorem dJ2_charAt_3b067_5 : decode cJ2_charAt_3b067 5 = .ok (.aload_n 0, 1) := by decide +kernel
theorem dJ2_charAt_3b067_6 : decode cJ2_charAt_3b067 6 = .ok (.iload_n 1, 1) := by decide +kernel
theorem dJ2_charAt_3b067_7 : decode cJ2_charAt_3b067 7 = .ok (.invokestatic 71, 3) := by decide +kernel
theorem dJ2_charAt_3b067_10 : decode cJ2_charAt_3b067 10 = .ok (.ireturn, 1) := by decide +kernel
theorem dJ2_checkIndex_2214a_0 : decode cJ2_checkIndex_2214a 0 = .ok (.iload_n 0, 1) := by decide +kernel
theorem dJ2_checkIndex_2214a_1 : decode cJ2_checkIndex_2214a 1 = .ok (.aload_n 1, 1) := by decide +kernel
theorem dJ2_checkIndex_2214a_2 : decode cJ2_checkIndex_2214a 2 = .ok (.invokestatic 48, 3) := by decide +kernel
theorem dJ2_checkIndex_2214a_5 : decode cJ2_checkIndex_2214a 5 = .ok (.invokestatic 414, 3) := by decide +kernel
theorem dJ2_checkIndex_2214a_8 : decode cJ2_checkIndex_2214a 8 = .ok (.return_, 1) := by decide +kernel
theorem dJ3_checkIndex_8e157_0 : decode cJ3_checkIndex_8e157 0 = .ok (.iload_n 0, 1) := by decide +kernel
theorem dJ3_checkIndex_8e157_1 : decode cJ3_checkIndex_8e157 1 = .ok (.ifCond .lt 8, 3) := by decide +kernel
theorem dJ3_checkIndex_8e157_4 : decode cJ3_checkIndex_8e157 4 = .ok (.iload_n 0, 1) := by decide +kernel
theorem dJ3_checkIndex_8e157_5 : decode cJ3_checkIndex_8e157 5 = .ok (.iload_n 1, 1) := by decide +kernel
theorem dJ3_checkIndex_8e157_6 : decode cJ3_checkIndex_8e157 6 = .ok (.if_icmp .lt 10, 3) := by decide +kernel
theorem dJ3_checkIndex_8e157_9 : decode cJ3_checkIndex_8e157 9 = .ok (.aload_n 2, 1) := by decide +kernel
theorem dJ3_checkIndex_8e157_10 : decode cJ3_checkIndex_8e157 10 = .ok (.iload_n 0, 1) := by decide +kernel
theorem dJ3_checkIndex_8e157_11 : decode cJ3_checkIndex_8e157 11 = .ok (.iload_n 1, 1) := by decide +kernel
theorem dJ3_checkIndex_8e157_12 : decode cJ3_checkIndex_8e157 12 = .ok (.invokestatic 95, 3) := by decide +kernel
theorem dJ3_checkIndex_8e157_15 : decode cJ3_checkIndex_8e157 15 = .ok (.athrow, 1) := by decide +kernel
theorem dJ3_checkIndex_8e157_16 : decode cJ3_checkIndex_8e157 16 = .ok (.iload_n 0, 1) := by decide +kernel
theorem dJ3_checkIndex_8e157_17 : decode cJ3_checkIndex_8e157 17 = .ok (.ireturn, 1) := by decide +kernel
theorem dJ7_fill_53178_0 : decode cJ7_fill_53178 0 = .ok (.iconst 0, 1) := by decide +kernel
theorem dJ7_fill_53178_1 : decode cJ7_fill_53178 1 = .ok (.istore_n 2, 1) := by decide +kernel
theorem dJ7_fill_53178_2 : decode cJ7_fill_53178 2 = .ok (.aload_n 0, 1) := by decide +kernel
theorem dJ7_fill_53178_3 : decode cJ7_fill_53178 3 = .ok (.arraylength, 1) := by decide +kernel
theorem dJ7_fill_53178_4 : decode cJ7_fill_53178 4 = .ok (.istore_n 3, 1) := by decide +kernel
theorem dJ7_fill_53178_5 : decode cJ7_fill_53178 5 = .ok (.iload_n 2, 1) := by decide +kernel
theorem dJ7_fill_53178_6 : decode cJ7_fill_53178 6 = .ok (.iload_n 3, 1) := by decide +kernel
theorem dJ7_fill_53178_7 : decode cJ7_fill_53178 7 = .ok (.if_icmp .ge 13, 3) := by decide +kernel
theorem dJ7_fill_53178_10 : decode cJ7_fill_53178 10 = .ok (.aload_n 0, 1) := by decide +kernel
theorem dJ7_fill_53178_11 : decode cJ7_fill_53178 11 = .ok (.iload_n 2, 1) := by decide +kernel
theorem dJ7_fill_53178_12 : decode cJ7_fill_53178 12 = .ok (.iload_n 1, 1) := by decide +kernel
theorem dJ7_fill_53178_13 : decode cJ7_fill_53178 13 = .ok (.iastore, 1) := by decide +kernel
theorem dJ7_fill_53178_14 : decode cJ7_fill_53178 14 = .ok (.iinc 2 1, 3) := by decide +kernel
theorem dJ7_fill_53178_17 : decode cJ7_fill_53178 17 = .ok (.goto (-12), 3) := by decide +kernel
theorem dJ7_fill_53178_20 : decode cJ7_fill_53178 20 = .ok (.return_, 1) := by decide +kernel
theorem dJ7_copyOf_59c91_0 : decode cJ7_copyOf_59c91 0 = .ok (.iload_n 1, 1) := by decide +kernel
theorem dJ7_copyOf_59c91_1 : decode cJ7_copyOf_59c91 1 = .ok (.aload_n 0, 1) := by decide +kernel
theorem dJ7_copyOf_59c91_2 : decode cJ7_copyOf_59c91 2 = .ok (.arraylength, 1) := by decide +kernel
theorem dJ7_copyOf_59c91_3 : decode cJ7_copyOf_59c91 3 = .ok (.if_icmp .ne 11, 3) := by decide +kernel
theorem dJ7_copyOf_59c91_6 : decode cJ7_copyOf_59c91 6 = .ok (.aload_n 0, 1) := by decide +kernel
theorem dJ7_copyOf_59c91_7 : decode cJ7_copyOf_59c91 7 = .ok (.invokevirtual 316, 3) := by decide +kernel
theorem dJ7_copyOf_59c91_10 : decode cJ7_copyOf_59c91 10 = .ok (.checkcast 317, 3) := by decide +kernel
theorem dJ7_copyOf_59c91_13 : decode cJ7_copyOf_59c91 13 = .ok (.areturn, 1) := by decide +kernel
theorem dJ7_copyOf_59c91_14 : decode cJ7_copyOf_59c91 14 = .ok (.iload_n 1, 1) := by decide +kernel
theorem dJ7_copyOf_59c91_15 : decode cJ7_copyOf_59c91 15 = .ok (.newarray .int, 2) := by decide +kernel
theorem dJ7_copyOf_59c91_17 : decode cJ7_copyOf_59c91 17 = .ok (.astore_n 2, 1) := by decide +kernel
theorem dJ7_copyOf_59c91_18 : decode cJ7_copyOf_59c91 18 = .ok (.aload_n 0, 1) := by decide +kernel
theorem dJ7_copyOf_59c91_19 : decode cJ7_copyOf_59c91 19 = .ok (.iconst 0, 1) := by decide +kernel
theorem dJ7_copyOf_59c91_20 : decode cJ7_copyOf_59c91 20 = .ok (.aload_n 2, 1) := by decide +kernel
theorem dJ7_copyOf_59c91_21 : decode cJ7_copyOf_59c91 21 = .ok (.iconst 0, 1) := by decide +kernel
theorem dJ7_copyOf_59c91_22 : decode cJ7_copyOf_59c91 22 = .ok (.aload_n 0, 1) := by decide +kernel
theorem dJ7_copyOf_59c91_23 : decode cJ7_copyOf_59c91 23 = .ok (.arraylength, 1) := by decide +kernel
theorem dJ7_copyOf_59c91_24 : decode cJ7_copyOf_59c91 24 = .ok (.iload_n 1, 1) := by decide +kernel
theorem dJ7_copyOf_59c91_25 : decode cJ7_copyOf_59c91 25 = .ok (.invokestatic 304, 3) := by decide +kernel
theorem dJ7_copyOf_59c91_28 : decode cJ7_copyOf_59c91 28 = .ok (.invokestatic 150, 3) := by decide +kernel
theorem dJ7_copyOf_59c91_31 : decode cJ7_copyOf_59c91 31 = .ok (.aload_n 2, 1) := by decide +kernel
theorem dJ7_copyOf_59c91_32 : decode cJ7_copyOf_59c91 32 = .ok (.areturn, 1) := by decide +kernel
