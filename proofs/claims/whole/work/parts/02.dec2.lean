theorem dX8_lays_157 : decode cX8_lays 157 = .ok (.iadd, 1) := by decide +kernel
theorem dX8_lays_158 : decode cX8_lays 158 = .ok (.iaload, 1) := by decide +kernel
theorem dX8_lays_159 : decode cX8_lays 159 = .ok (.if_icmp .ne 28, 3) := by decide +kernel
theorem dX8_lays_162 : decode cX8_lays 162 = .ok (.aload_n 0, 1) := by decide +kernel
theorem dX8_lays_163 : decode cX8_lays 163 = .ok (.getfield 22, 3) := by decide +kernel
theorem dX8_lays_166 : decode cX8_lays 166 = .ok (.iconst 3, 1) := by decide +kernel
theorem dX8_lays_167 : decode cX8_lays 167 = .ok (.iload 4, 2) := by decide +kernel
theorem dX8_lays_169 : decode cX8_lays 169 = .ok (.imul, 1) := by decide +kernel
theorem dX8_lays_170 : decode cX8_lays 170 = .ok (.iconst 1, 1) := by decide +kernel
theorem dX8_lays_171 : decode cX8_lays 171 = .ok (.iadd, 1) := by decide +kernel
theorem dX8_lays_172 : decode cX8_lays 172 = .ok (.aload_n 0, 1) := by decide +kernel
theorem dX8_lays_173 : decode cX8_lays 173 = .ok (.getfield 22, 3) := by decide +kernel
theorem dX8_lays_176 : decode cX8_lays 176 = .ok (.iconst 3, 1) := by decide +kernel
theorem dX8_lays_177 : decode cX8_lays 177 = .ok (.iload 5, 2) := by decide +kernel
theorem dX8_lays_179 : decode cX8_lays 179 = .ok (.imul, 1) := by decide +kernel
theorem dX8_lays_180 : decode cX8_lays 180 = .ok (.iconst 1, 1) := by decide +kernel
theorem dX8_lays_181 : decode cX8_lays 181 = .ok (.iadd, 1) := by decide +kernel
theorem dX8_lays_182 : decode cX8_lays 182 = .ok (.iaload, 1) := by decide +kernel
theorem dX8_lays_183 : decode cX8_lays 183 = .ok (.iastore, 1) := by decide +kernel
theorem dX8_lays_184 : decode cX8_lays 184 = .ok (.goto 68, 3) := by decide +kernel
theorem dX8_lays_187 : decode cX8_lays 187 = .ok (.iinc 4 1, 3) := by decide +kernel
theorem dX8_lays_190 : decode cX8_lays 190 = .ok (.aload_n 0, 1) := by decide +kernel
theorem dX8_lays_191 : decode cX8_lays 191 = .ok (.getfield 22, 3) := by decide +kernel
theorem dX8_lays_194 : decode cX8_lays 194 = .ok (.iconst 3, 1) := by decide +kernel
theorem dX8_lays_195 : decode cX8_lays 195 = .ok (.iload 4, 2) := by decide +kernel
theorem dX8_lays_197 : decode cX8_lays 197 = .ok (.imul, 1) := by decide +kernel
theorem dX8_lays_198 : decode cX8_lays 198 = .ok (.aload_n 0, 1) := by decide +kernel
theorem dX8_lays_199 : decode cX8_lays 199 = .ok (.getfield 22, 3) := by decide +kernel
theorem dX8_lays_202 : decode cX8_lays 202 = .ok (.iconst 3, 1) := by decide +kernel
theorem dX8_lays_203 : decode cX8_lays 203 = .ok (.iload 5, 2) := by decide +kernel
theorem dX8_lays_205 : decode cX8_lays 205 = .ok (.imul, 1) := by decide +kernel
theorem dX8_lays_206 : decode cX8_lays 206 = .ok (.iaload, 1) := by decide +kernel
theorem dX8_lays_207 : decode cX8_lays 207 = .ok (.iastore, 1) := by decide +kernel
theorem dX8_lays_208 : decode cX8_lays 208 = .ok (.aload_n 0, 1) := by decide +kernel
theorem dX8_lays_209 : decode cX8_lays 209 = .ok (.getfield 22, 3) := by decide +kernel
theorem dX8_lays_212 : decode cX8_lays 212 = .ok (.iconst 3, 1) := by decide +kernel
theorem dX8_lays_213 : decode cX8_lays 213 = .ok (.iload 4, 2) := by decide +kernel
theorem dX8_lays_215 : decode cX8_lays 215 = .ok (.imul, 1) := by decide +kernel
theorem dX8_lays_216 : decode cX8_lays 216 = .ok (.iconst 1, 1) := by decide +kernel
theorem dX8_lays_217 : decode cX8_lays 217 = .ok (.iadd, 1) := by decide +kernel
theorem dX8_lays_218 : decode cX8_lays 218 = .ok (.aload_n 0, 1) := by decide +kernel
theorem dX8_lays_219 : decode cX8_lays 219 = .ok (.getfield 22, 3) := by decide +kernel
theorem dX8_lays_222 : decode cX8_lays 222 = .ok (.iconst 3, 1) := by decide +kernel
theorem dX8_lays_223 : decode cX8_lays 223 = .ok (.iload 5, 2) := by decide +kernel
theorem dX8_lays_225 : decode cX8_lays 225 = .ok (.imul, 1) := by decide +kernel
theorem dX8_lays_226 : decode cX8_lays 226 = .ok (.iconst 1, 1) := by decide +kernel
theorem dX8_lays_227 : decode cX8_lays 227 = .ok (.iadd, 1) := by decide +kernel
theorem dX8_lays_228 : decode cX8_lays 228 = .ok (.iaload, 1) := by decide +kernel
theorem dX8_lays_229 : decode cX8_lays 229 = .ok (.iastore, 1) := by decide +kernel
theorem dX8_lays_230 : decode cX8_lays 230 = .ok (.aload_n 0, 1) := by decide +kernel
theorem dX8_lays_231 : decode cX8_lays 231 = .ok (.getfield 22, 3) := by decide +kernel
theorem dX8_lays_234 : decode cX8_lays 234 = .ok (.iconst 3, 1) := by decide +kernel
theorem dX8_lays_235 : decode cX8_lays 235 = .ok (.iload 4, 2) := by decide +kernel
theorem dX8_lays_237 : decode cX8_lays 237 = .ok (.imul, 1) := by decide +kernel
theorem dX8_lays_238 : decode cX8_lays 238 = .ok (.iconst 2, 1) := by decide +kernel
theorem dX8_lays_239 : decode cX8_lays 239 = .ok (.iadd, 1) := by decide +kernel
theorem dX8_lays_240 : decode cX8_lays 240 = .ok (.aload_n 0, 1) := by decide +kernel
theorem dX8_lays_241 : decode cX8_lays 241 = .ok (.getfield 22, 3) := by decide +kernel
theorem dX8_lays_244 : decode cX8_lays 244 = .ok (.iconst 3, 1) := by decide +kernel
theorem dX8_lays_245 : decode cX8_lays 245 = .ok (.iload 5, 2) := by decide +kernel
theorem dX8_lays_247 : decode cX8_lays 247 = .ok (.imul, 1) := by decide +kernel
theorem dX8_lays_248 : decode cX8_lays 248 = .ok (.iconst 2, 1) := by decide +kernel
theorem dX8_lays_249 : decode cX8_lays 249 = .ok (.iadd, 1) := by decide +kernel
theorem dX8_lays_250 : decode cX8_lays 250 = .ok (.iaload, 1) := by decide +kernel
theorem dX8_lays_251 : decode cX8_lays 251 = .ok (.iastore, 1) := by decide +kernel
theorem dX8_lays_252 : decode cX8_lays 252 = .ok (.iinc 5 1, 3) := by decide +kernel
theorem dX8_lays_255 : decode cX8_lays 255 = .ok (.goto (-152), 3) := by decide +kernel
theorem dX8_lays_258 : decode cX8_lays 258 = .ok (.aload_n 0, 1) := by decide +kernel
theorem dX8_lays_259 : decode cX8_lays 259 = .ok (.aload_n 0, 1) := by decide +kernel
theorem dX8_lays_260 : decode cX8_lays 260 = .ok (.getfield 83, 3) := by decide +kernel
theorem dX8_lays_263 : decode cX8_lays 263 = .ok (.ifCond .ne 7, 3) := by decide +kernel
theorem dX8_lays_266 : decode cX8_lays 266 = .ok (.iconst 0, 1) := by decide +kernel
theorem dX8_lays_267 : decode cX8_lays 267 = .ok (.goto 7, 3) := by decide +kernel
theorem dX8_lays_270 : decode cX8_lays 270 = .ok (.iload 4, 2) := by decide +kernel
theorem dX8_lays_272 : decode cX8_lays 272 = .ok (.iconst 1, 1) := by decide +kernel
theorem dX8_lays_273 : decode cX8_lays 273 = .ok (.iadd, 1) := by decide +kernel
theorem dX8_lays_274 : decode cX8_lays 274 = .ok (.putfield 83, 3) := by decide +kernel
theorem dX8_lays_277 : decode cX8_lays 277 = .ok (.return_, 1) := by decide +kernel
theorem dX8_fits_0 : decode cX8_fits 0 = .ok (.aload_n 0, 1) := by decide +kernel
theorem dX8_fits_1 : decode cX8_fits 1 = .ok (.iload_n 1, 1) := by decide +kernel
theorem dX8_fits_2 : decode cX8_fits 2 = .ok (.iload_n 2, 1) := by decide +kernel
theorem dX8_fits_3 : decode cX8_fits 3 = .ok (.iload_n 3, 1) := by decide +kernel
theorem dX8_fits_4 : decode cX8_fits 4 = .ok (.invokevirtual 90, 3) := by decide +kernel
theorem dX8_fits_7 : decode cX8_fits 7 = .ok (.lconst 0, 1) := by decide +kernel
theorem dX8_fits_8 : decode cX8_fits 8 = .ok (.lstore 4, 2) := by decide +kernel
theorem dX8_fits_10 : decode cX8_fits 10 = .ok (.iconst 0, 1) := by decide +kernel
theorem dX8_fits_11 : decode cX8_fits 11 = .ok (.istore 6, 2) := by decide +kernel
theorem dX8_fits_13 : decode cX8_fits 13 = .ok (.iload 6, 2) := by decide +kernel
theorem dX8_fits_15 : decode cX8_fits 15 = .ok (.aload_n 0, 1) := by decide +kernel
theorem dX8_fits_16 : decode cX8_fits 16 = .ok (.getfield 83, 3) := by decide +kernel
theorem dX8_fits_19 : decode cX8_fits 19 = .ok (.if_icmp .ge 63, 3) := by decide +kernel
theorem dX8_fits_22 : decode cX8_fits 22 = .ok (.lload 4, 2) := by decide +kernel
theorem dX8_fits_24 : decode cX8_fits 24 = .ok (.iload_n 3, 1) := by decide +kernel
theorem dX8_fits_25 : decode cX8_fits 25 = .ok (.iconst (-1), 1) := by decide +kernel
theorem dX8_fits_26 : decode cX8_fits 26 = .ok (.if_icmp .eq 46, 3) := by decide +kernel
theorem dX8_fits_29 : decode cX8_fits 29 = .ok (.aload_n 0, 1) := by decide +kernel
theorem dX8_fits_30 : decode cX8_fits 30 = .ok (.getfield 22, 3) := by decide +kernel
theorem dX8_fits_33 : decode cX8_fits 33 = .ok (.iconst 3, 1) := by decide +kernel
theorem dX8_fits_34 : decode cX8_fits 34 = .ok (.iload 6, 2) := by decide +kernel
theorem dX8_fits_36 : decode cX8_fits 36 = .ok (.imul, 1) := by decide +kernel
theorem dX8_fits_37 : decode cX8_fits 37 = .ok (.iconst 2, 1) := by decide +kernel
theorem dX8_fits_38 : decode cX8_fits 38 = .ok (.iadd, 1) := by decide +kernel
theorem dX8_fits_39 : decode cX8_fits 39 = .ok (.iaload, 1) := by decide +kernel
theorem dX8_fits_40 : decode cX8_fits 40 = .ok (.iload_n 3, 1) := by decide +kernel
theorem dX8_fits_41 : decode cX8_fits 41 = .ok (.if_icmp .ne 31, 3) := by decide +kernel
theorem dX8_fits_44 : decode cX8_fits 44 = .ok (.aload_n 0, 1) := by decide +kernel
theorem dX8_fits_45 : decode cX8_fits 45 = .ok (.getfield 22, 3) := by decide +kernel
theorem dX8_fits_48 : decode cX8_fits 48 = .ok (.iconst 3, 1) := by decide +kernel
theorem dX8_fits_49 : decode cX8_fits 49 = .ok (.iload 6, 2) := by decide +kernel
theorem dX8_fits_51 : decode cX8_fits 51 = .ok (.imul, 1) := by decide +kernel
theorem dX8_fits_52 : decode cX8_fits 52 = .ok (.iconst 1, 1) := by decide +kernel
theorem dX8_fits_53 : decode cX8_fits 53 = .ok (.iadd, 1) := by decide +kernel
theorem dX8_fits_54 : decode cX8_fits 54 = .ok (.iaload, 1) := by decide +kernel
theorem dX8_fits_55 : decode cX8_fits 55 = .ok (.i2l, 1) := by decide +kernel
theorem dX8_fits_56 : decode cX8_fits 56 = .ok (.aload_n 0, 1) := by decide +kernel
theorem dX8_fits_57 : decode cX8_fits 57 = .ok (.getfield 22, 3) := by decide +kernel
theorem dX8_fits_60 : decode cX8_fits 60 = .ok (.iconst 3, 1) := by decide +kernel
theorem dX8_fits_61 : decode cX8_fits 61 = .ok (.iload 6, 2) := by decide +kernel
theorem dX8_fits_63 : decode cX8_fits 63 = .ok (.imul, 1) := by decide +kernel
theorem dX8_fits_64 : decode cX8_fits 64 = .ok (.iaload, 1) := by decide +kernel
theorem dX8_fits_65 : decode cX8_fits 65 = .ok (.i2l, 1) := by decide +kernel
theorem dX8_fits_66 : decode cX8_fits 66 = .ok (.lsub, 1) := by decide +kernel
theorem dX8_fits_67 : decode cX8_fits 67 = .ok (.lconst 1, 1) := by decide +kernel
theorem dX8_fits_68 : decode cX8_fits 68 = .ok (.ladd, 1) := by decide +kernel
theorem dX8_fits_69 : decode cX8_fits 69 = .ok (.goto 4, 3) := by decide +kernel
theorem dX8_fits_72 : decode cX8_fits 72 = .ok (.lconst 0, 1) := by decide +kernel
theorem dX8_fits_73 : decode cX8_fits 73 = .ok (.ladd, 1) := by decide +kernel
theorem dX8_fits_74 : decode cX8_fits 74 = .ok (.lstore 4, 2) := by decide +kernel
theorem dX8_fits_76 : decode cX8_fits 76 = .ok (.iinc 6 1, 3) := by decide +kernel
theorem dX8_fits_79 : decode cX8_fits 79 = .ok (.goto (-66), 3) := by decide +kernel
theorem dX8_fits_82 : decode cX8_fits 82 = .ok (.iload_n 3, 1) := by decide +kernel
theorem dX8_fits_83 : decode cX8_fits 83 = .ok (.iconst (-1), 1) := by decide +kernel
theorem dX8_fits_84 : decode cX8_fits 84 = .ok (.if_icmp .eq 19, 3) := by decide +kernel
theorem dX8_fits_87 : decode cX8_fits 87 = .ok (.lload 4, 2) := by decide +kernel
theorem dX8_fits_89 : decode cX8_fits 89 = .ok (.aload_n 0, 1) := by decide +kernel
theorem dX8_fits_90 : decode cX8_fits 90 = .ok (.getfield 7, 3) := by decide +kernel
theorem dX8_fits_93 : decode cX8_fits 93 = .ok (.bipush 34, 2) := by decide +kernel
theorem dX8_fits_95 : decode cX8_fits 95 = .ok (.iload_n 3, 1) := by decide +kernel
theorem dX8_fits_96 : decode cX8_fits 96 = .ok (.iadd, 1) := by decide +kernel
theorem dX8_fits_97 : decode cX8_fits 97 = .ok (.iaload, 1) := by decide +kernel
theorem dX8_fits_98 : decode cX8_fits 98 = .ok (.i2l, 1) := by decide +kernel
theorem dX8_fits_99 : decode cX8_fits 99 = .ok (.lcmp, 1) := by decide +kernel
theorem dX8_fits_100 : decode cX8_fits 100 = .ok (.ifCond .gt 27, 3) := by decide +kernel
theorem dX8_fits_103 : decode cX8_fits 103 = .ok (.aload_n 0, 1) := by decide +kernel
theorem dX8_fits_104 : decode cX8_fits 104 = .ok (.getfield 83, 3) := by decide +kernel
theorem dX8_fits_107 : decode cX8_fits 107 = .ok (.bipush 40, 2) := by decide +kernel
theorem dX8_fits_109 : decode cX8_fits 109 = .ok (.if_icmp .gt 18, 3) := by decide +kernel
theorem dX8_fits_112 : decode cX8_fits 112 = .ok (.aload_n 0, 1) := by decide +kernel
theorem dX8_fits_113 : decode cX8_fits 113 = .ok (.getfield 7, 3) := by decide +kernel
theorem dX8_fits_116 : decode cX8_fits 116 = .ok (.iconst 2, 1) := by decide +kernel
theorem dX8_fits_117 : decode cX8_fits 117 = .ok (.iaload, 1) := by decide +kernel
theorem dX8_fits_118 : decode cX8_fits 118 = .ok (.bipush 100, 2) := by decide +kernel
theorem dX8_fits_120 : decode cX8_fits 120 = .ok (.if_icmp .ge 7, 3) := by decide +kernel
theorem dX8_fits_123 : decode cX8_fits 123 = .ok (.iconst 1, 1) := by decide +kernel
theorem dX8_fits_124 : decode cX8_fits 124 = .ok (.goto 4, 3) := by decide +kernel
theorem dX8_fits_127 : decode cX8_fits 127 = .ok (.iconst 0, 1) := by decide +kernel
theorem dX8_fits_128 : decode cX8_fits 128 = .ok (.ireturn, 1) := by decide +kernel
theorem dX8_moves_0 : decode cX8_moves 0 = .ok (.aload_n 0, 1) := by decide +kernel
theorem dX8_moves_1 : decode cX8_moves 1 = .ok (.getfield 7, 3) := by decide +kernel
theorem dX8_moves_4 : decode cX8_moves 4 = .ok (.iconst 1, 1) := by decide +kernel
theorem dX8_moves_5 : decode cX8_moves 5 = .ok (.aload_n 0, 1) := by decide +kernel
theorem dX8_moves_6 : decode cX8_moves 6 = .ok (.getfield 83, 3) := by decide +kernel
theorem dX8_moves_9 : decode cX8_moves 9 = .ok (.iastore, 1) := by decide +kernel
theorem dX8_moves_10 : decode cX8_moves 10 = .ok (.iconst 0, 1) := by decide +kernel
theorem dX8_moves_11 : decode cX8_moves 11 = .ok (.istore 4, 2) := by decide +kernel
theorem dX8_moves_13 : decode cX8_moves 13 = .ok (.iload 4, 2) := by decide +kernel
theorem dX8_moves_15 : decode cX8_moves 15 = .ok (.iconst 3, 1) := by decide +kernel
theorem dX8_moves_16 : decode cX8_moves 16 = .ok (.aload_n 0, 1) := by decide +kernel
theorem dX8_moves_17 : decode cX8_moves 17 = .ok (.getfield 83, 3) := by decide +kernel
theorem dX8_moves_20 : decode cX8_moves 20 = .ok (.imul, 1) := by decide +kernel
theorem dX8_moves_21 : decode cX8_moves 21 = .ok (.if_icmp .ge 26, 3) := by decide +kernel
theorem dX8_moves_24 : decode cX8_moves 24 = .ok (.aload_n 0, 1) := by decide +kernel
theorem dX8_moves_25 : decode cX8_moves 25 = .ok (.getfield 7, 3) := by decide +kernel
theorem dX8_moves_28 : decode cX8_moves 28 = .ok (.bipush 42, 2) := by decide +kernel
theorem dX8_moves_30 : decode cX8_moves 30 = .ok (.iload 4, 2) := by decide +kernel
theorem dX8_moves_32 : decode cX8_moves 32 = .ok (.iadd, 1) := by decide +kernel
theorem dX8_moves_33 : decode cX8_moves 33 = .ok (.aload_n 0, 1) := by decide +kernel
theorem dX8_moves_34 : decode cX8_moves 34 = .ok (.getfield 22, 3) := by decide +kernel
theorem dX8_moves_37 : decode cX8_moves 37 = .ok (.iload 4, 2) := by decide +kernel
theorem dX8_moves_39 : decode cX8_moves 39 = .ok (.iaload, 1) := by decide +kernel
theorem dX8_moves_40 : decode cX8_moves 40 = .ok (.iastore, 1) := by decide +kernel
theorem dX8_moves_41 : decode cX8_moves 41 = .ok (.iinc 4 1, 3) := by decide +kernel
theorem dX8_moves_44 : decode cX8_moves 44 = .ok (.goto (-31), 3) := by decide +kernel
theorem dX8_moves_47 : decode cX8_moves 47 = .ok (.sipush 162, 3) := by decide +kernel
theorem dX8_moves_50 : decode cX8_moves 50 = .ok (.iconst 4, 1) := by decide +kernel
theorem dX8_moves_51 : decode cX8_moves 51 = .ok (.aload_n 0, 1) := by decide +kernel
theorem dX8_moves_52 : decode cX8_moves 52 = .ok (.getfield 7, 3) := by decide +kernel
theorem dX8_moves_55 : decode cX8_moves 55 = .ok (.iconst 2, 1) := by decide +kernel
theorem dX8_moves_56 : decode cX8_moves 56 = .ok (.iaload, 1) := by decide +kernel
theorem dX8_moves_57 : decode cX8_moves 57 = .ok (.imul, 1) := by decide +kernel
theorem dX8_moves_58 : decode cX8_moves 58 = .ok (.iadd, 1) := by decide +kernel
theorem dX8_moves_59 : decode cX8_moves 59 = .ok (.istore 4, 2) := by decide +kernel
theorem dX8_moves_61 : decode cX8_moves 61 = .ok (.aload_n 0, 1) := by decide +kernel
theorem dX8_moves_62 : decode cX8_moves 62 = .ok (.getfield 7, 3) := by decide +kernel
theorem dX8_moves_65 : decode cX8_moves 65 = .ok (.iload 4, 2) := by decide +kernel
theorem dX8_moves_67 : decode cX8_moves 67 = .ok (.aload_n 0, 1) := by decide +kernel
theorem dX8_moves_68 : decode cX8_moves 68 = .ok (.getfield 7, 3) := by decide +kernel
theorem dX8_moves_71 : decode cX8_moves 71 = .ok (.iconst 3, 1) := by decide +kernel
theorem dX8_moves_72 : decode cX8_moves 72 = .ok (.iaload, 1) := by decide +kernel
theorem dX8_moves_73 : decode cX8_moves 73 = .ok (.iastore, 1) := by decide +kernel
theorem dX8_moves_74 : decode cX8_moves 74 = .ok (.aload_n 0, 1) := by decide +kernel
theorem dX8_moves_75 : decode cX8_moves 75 = .ok (.getfield 7, 3) := by decide +kernel
theorem dX8_moves_78 : decode cX8_moves 78 = .ok (.iload 4, 2) := by decide +kernel
theorem dX8_moves_80 : decode cX8_moves 80 = .ok (.iconst 1, 1) := by decide +kernel
theorem dX8_moves_81 : decode cX8_moves 81 = .ok (.iadd, 1) := by decide +kernel
theorem dX8_moves_82 : decode cX8_moves 82 = .ok (.iload_n 1, 1) := by decide +kernel
theorem dX8_moves_83 : decode cX8_moves 83 = .ok (.iastore, 1) := by decide +kernel
theorem dX8_moves_84 : decode cX8_moves 84 = .ok (.aload_n 0, 1) := by decide +kernel
theorem dX8_moves_85 : decode cX8_moves 85 = .ok (.getfield 7, 3) := by decide +kernel
theorem dX8_moves_88 : decode cX8_moves 88 = .ok (.iload 4, 2) := by decide +kernel
theorem dX8_moves_90 : decode cX8_moves 90 = .ok (.iconst 2, 1) := by decide +kernel
theorem dX8_moves_91 : decode cX8_moves 91 = .ok (.iadd, 1) := by decide +kernel
theorem dX8_moves_92 : decode cX8_moves 92 = .ok (.iload_n 2, 1) := by decide +kernel
theorem dX8_moves_93 : decode cX8_moves 93 = .ok (.iastore, 1) := by decide +kernel
theorem dX8_moves_94 : decode cX8_moves 94 = .ok (.aload_n 0, 1) := by decide +kernel
theorem dX8_moves_95 : decode cX8_moves 95 = .ok (.getfield 7, 3) := by decide +kernel
theorem dX8_moves_98 : decode cX8_moves 98 = .ok (.iload 4, 2) := by decide +kernel
theorem dX8_moves_100 : decode cX8_moves 100 = .ok (.iconst 3, 1) := by decide +kernel
theorem dX8_moves_101 : decode cX8_moves 101 = .ok (.iadd, 1) := by decide +kernel
theorem dX8_moves_102 : decode cX8_moves 102 = .ok (.iload_n 3, 1) := by decide +kernel
theorem dX8_moves_103 : decode cX8_moves 103 = .ok (.iastore, 1) := by decide +kernel
theorem dX8_moves_104 : decode cX8_moves 104 = .ok (.aload_n 0, 1) := by decide +kernel
theorem dX8_moves_105 : decode cX8_moves 105 = .ok (.getfield 7, 3) := by decide +kernel
theorem dX8_moves_108 : decode cX8_moves 108 = .ok (.iconst 2, 1) := by decide +kernel
theorem dX8_moves_109 : decode cX8_moves 109 = .ok (.dup2, 1) := by decide +kernel
theorem dX8_moves_110 : decode cX8_moves 110 = .ok (.iaload, 1) := by decide +kernel
theorem dX8_moves_111 : decode cX8_moves 111 = .ok (.iconst 1, 1) := by decide +kernel
theorem dX8_moves_112 : decode cX8_moves 112 = .ok (.iadd, 1) := by decide +kernel
theorem dX8_moves_113 : decode cX8_moves 113 = .ok (.iastore, 1) := by decide +kernel
theorem dX8_moves_114 : decode cX8_moves 114 = .ok (.return_, 1) := by decide +kernel
theorem dX8_ownIn_0 : decode cX8_ownIn 0 = .ok (.iload_n 1, 1) := by decide +kernel
theorem dX8_ownIn_1 : decode cX8_ownIn 1 = .ok (.iconst (-1), 1) := by decide +kernel
theorem dX8_ownIn_2 : decode cX8_ownIn 2 = .ok (.if_icmp .ne 11, 3) := by decide +kernel
theorem dX8_ownIn_5 : decode cX8_ownIn 5 = .ok (.iload_n 3, 1) := by decide +kernel
theorem dX8_ownIn_6 : decode cX8_ownIn 6 = .ok (.iload_n 2, 1) := by decide +kernel
theorem dX8_ownIn_7 : decode cX8_ownIn 7 = .ok (.isub, 1) := by decide +kernel
theorem dX8_ownIn_8 : decode cX8_ownIn 8 = .ok (.iconst 1, 1) := by decide +kernel
theorem dX8_ownIn_9 : decode cX8_ownIn 9 = .ok (.iadd, 1) := by decide +kernel
theorem dX8_ownIn_10 : decode cX8_ownIn 10 = .ok (.goto 18, 3) := by decide +kernel
theorem dX8_ownIn_13 : decode cX8_ownIn 13 = .ok (.aload_n 0, 1) := by decide +kernel
theorem dX8_ownIn_14 : decode cX8_ownIn 14 = .ok (.iload_n 1, 1) := by decide +kernel
theorem dX8_ownIn_15 : decode cX8_ownIn 15 = .ok (.invokevirtual 93, 3) := by decide +kernel
theorem dX8_ownIn_18 : decode cX8_ownIn 18 = .ok (.aload_n 0, 1) := by decide +kernel
theorem dX8_ownIn_19 : decode cX8_ownIn 19 = .ok (.iload_n 1, 1) := by decide +kernel
theorem dX8_ownIn_20 : decode cX8_ownIn 20 = .ok (.invokevirtual 97, 3) := by decide +kernel
theorem dX8_ownIn_23 : decode cX8_ownIn 23 = .ok (.iload_n 2, 1) := by decide +kernel
theorem dX8_ownIn_24 : decode cX8_ownIn 24 = .ok (.iload_n 3, 1) := by decide +kernel
theorem dX8_ownIn_25 : decode cX8_ownIn 25 = .ok (.invokestatic 74, 3) := by decide +kernel
theorem dX8_ownIn_28 : decode cX8_ownIn 28 = .ok (.istore 4, 2) := by decide +kernel
theorem dX8_ownIn_30 : decode cX8_ownIn 30 = .ok (.iconst 0, 1) := by decide +kernel
theorem dX8_ownIn_31 : decode cX8_ownIn 31 = .ok (.istore 5, 2) := by decide +kernel
theorem dX8_ownIn_33 : decode cX8_ownIn 33 = .ok (.iload 5, 2) := by decide +kernel
theorem dX8_ownIn_35 : decode cX8_ownIn 35 = .ok (.aload_n 0, 1) := by decide +kernel
theorem dX8_ownIn_36 : decode cX8_ownIn 36 = .ok (.getfield 7, 3) := by decide +kernel
theorem dX8_ownIn_39 : decode cX8_ownIn 39 = .ok (.iconst 0, 1) := by decide +kernel
theorem dX8_ownIn_40 : decode cX8_ownIn 40 = .ok (.iaload, 1) := by decide +kernel
theorem dX8_ownIn_41 : decode cX8_ownIn 41 = .ok (.if_icmp .ge 45, 3) := by decide +kernel
theorem dX8_ownIn_44 : decode cX8_ownIn 44 = .ok (.iload 4, 2) := by decide +kernel
theorem dX8_ownIn_46 : decode cX8_ownIn 46 = .ok (.aload_n 0, 1) := by decide +kernel
theorem dX8_ownIn_47 : decode cX8_ownIn 47 = .ok (.iload 5, 2) := by decide +kernel
theorem dX8_ownIn_49 : decode cX8_ownIn 49 = .ok (.invokevirtual 100, 3) := by decide +kernel
theorem dX8_ownIn_52 : decode cX8_ownIn 52 = .ok (.iload_n 1, 1) := by decide +kernel
theorem dX8_ownIn_53 : decode cX8_ownIn 53 = .ok (.if_icmp .ne 23, 3) := by decide +kernel
theorem dX8_ownIn_56 : decode cX8_ownIn 56 = .ok (.aload_n 0, 1) := by decide +kernel
theorem dX8_ownIn_57 : decode cX8_ownIn 57 = .ok (.iload 5, 2) := by decide +kernel
theorem dX8_ownIn_59 : decode cX8_ownIn 59 = .ok (.invokevirtual 93, 3) := by decide +kernel
theorem dX8_ownIn_62 : decode cX8_ownIn 62 = .ok (.aload_n 0, 1) := by decide +kernel
theorem dX8_ownIn_63 : decode cX8_ownIn 63 = .ok (.iload 5, 2) := by decide +kernel
theorem dX8_ownIn_65 : decode cX8_ownIn 65 = .ok (.invokevirtual 97, 3) := by decide +kernel
theorem dX8_ownIn_68 : decode cX8_ownIn 68 = .ok (.iload_n 2, 1) := by decide +kernel
theorem dX8_ownIn_69 : decode cX8_ownIn 69 = .ok (.iload_n 3, 1) := by decide +kernel
theorem dX8_ownIn_70 : decode cX8_ownIn 70 = .ok (.invokestatic 74, 3) := by decide +kernel
theorem dX8_ownIn_73 : decode cX8_ownIn 73 = .ok (.goto 4, 3) := by decide +kernel
theorem dX8_ownIn_76 : decode cX8_ownIn 76 = .ok (.iconst 0, 1) := by decide +kernel
theorem dX8_ownIn_77 : decode cX8_ownIn 77 = .ok (.isub, 1) := by decide +kernel
theorem dX8_ownIn_78 : decode cX8_ownIn 78 = .ok (.istore 4, 2) := by decide +kernel
theorem dX8_ownIn_80 : decode cX8_ownIn 80 = .ok (.iinc 5 1, 3) := by decide +kernel
theorem dX8_ownIn_83 : decode cX8_ownIn 83 = .ok (.goto (-50), 3) := by decide +kernel
theorem dX8_ownIn_86 : decode cX8_ownIn 86 = .ok (.iload 4, 2) := by decide +kernel
theorem dX8_ownIn_88 : decode cX8_ownIn 88 = .ok (.ireturn, 1) := by decide +kernel
theorem dX8_ownInBox_0 : decode cX8_ownInBox 0 = .ok (.iconst 0, 1) := by decide +kernel
theorem dX8_ownInBox_1 : decode cX8_ownInBox 1 = .ok (.istore_n 3, 1) := by decide +kernel
theorem dX8_ownInBox_2 : decode cX8_ownInBox 2 = .ok (.iconst 0, 1) := by decide +kernel
theorem dX8_ownInBox_3 : decode cX8_ownInBox 3 = .ok (.istore 4, 2) := by decide +kernel
theorem dX8_ownInBox_5 : decode cX8_ownInBox 5 = .ok (.iload 4, 2) := by decide +kernel
theorem dX8_ownInBox_7 : decode cX8_ownInBox 7 = .ok (.aload_n 0, 1) := by decide +kernel
theorem dX8_ownInBox_8 : decode cX8_ownInBox 8 = .ok (.getfield 7, 3) := by decide +kernel
theorem dX8_ownInBox_11 : decode cX8_ownInBox 11 = .ok (.iconst 1, 1) := by decide +kernel
theorem dX8_ownInBox_12 : decode cX8_ownInBox 12 = .ok (.iaload, 1) := by decide +kernel
theorem dX8_ownInBox_13 : decode cX8_ownInBox 13 = .ok (.if_icmp .ge 46, 3) := by decide +kernel
theorem dX8_ownInBox_16 : decode cX8_ownInBox 16 = .ok (.iload_n 3, 1) := by decide +kernel
theorem dX8_ownInBox_17 : decode cX8_ownInBox 17 = .ok (.aload_n 0, 1) := by decide +kernel
theorem dX8_ownInBox_18 : decode cX8_ownInBox 18 = .ok (.iload 4, 2) := by decide +kernel
theorem dX8_ownInBox_20 : decode cX8_ownInBox 20 = .ok (.iconst 2, 1) := by decide +kernel
theorem dX8_ownInBox_21 : decode cX8_ownInBox 21 = .ok (.invokevirtual 71, 3) := by decide +kernel
theorem dX8_ownInBox_24 : decode cX8_ownInBox 24 = .ok (.iload_n 2, 1) := by decide +kernel
theorem dX8_ownInBox_25 : decode cX8_ownInBox 25 = .ok (.if_icmp .ne 25, 3) := by decide +kernel
theorem dX8_ownInBox_28 : decode cX8_ownInBox 28 = .ok (.aload_n 0, 1) := by decide +kernel
theorem dX8_ownInBox_29 : decode cX8_ownInBox 29 = .ok (.iload_n 1, 1) := by decide +kernel
theorem dX8_ownInBox_30 : decode cX8_ownInBox 30 = .ok (.aload_n 0, 1) := by decide +kernel
theorem dX8_ownInBox_31 : decode cX8_ownInBox 31 = .ok (.iload 4, 2) := by decide +kernel
theorem dX8_ownInBox_33 : decode cX8_ownInBox 33 = .ok (.iconst 0, 1) := by decide +kernel
theorem dX8_ownInBox_34 : decode cX8_ownInBox 34 = .ok (.invokevirtual 71, 3) := by decide +kernel
theorem dX8_ownInBox_37 : decode cX8_ownInBox 37 = .ok (.aload_n 0, 1) := by decide +kernel
theorem dX8_ownInBox_38 : decode cX8_ownInBox 38 = .ok (.iload 4, 2) := by decide +kernel
theorem dX8_ownInBox_40 : decode cX8_ownInBox 40 = .ok (.iconst 1, 1) := by decide +kernel
theorem dX8_ownInBox_41 : decode cX8_ownInBox 41 = .ok (.invokevirtual 71, 3) := by decide +kernel
theorem dX8_ownInBox_44 : decode cX8_ownInBox 44 = .ok (.invokevirtual 103, 3) := by decide +kernel
theorem dX8_ownInBox_47 : decode cX8_ownInBox 47 = .ok (.goto 4, 3) := by decide +kernel
theorem dX8_ownInBox_50 : decode cX8_ownInBox 50 = .ok (.iconst 0, 1) := by decide +kernel
theorem dX8_ownInBox_51 : decode cX8_ownInBox 51 = .ok (.iadd, 1) := by decide +kernel
theorem dX8_ownInBox_52 : decode cX8_ownInBox 52 = .ok (.istore_n 3, 1) := by decide +kernel
theorem dX8_ownInBox_53 : decode cX8_ownInBox 53 = .ok (.iinc 4 1, 3) := by decide +kernel
theorem dX8_ownInBox_56 : decode cX8_ownInBox 56 = .ok (.goto (-51), 3) := by decide +kernel
theorem dX8_ownInBox_59 : decode cX8_ownInBox 59 = .ok (.iload_n 3, 1) := by decide +kernel
theorem dX8_ownInBox_60 : decode cX8_ownInBox 60 = .ok (.ireturn, 1) := by decide +kernel
theorem dX8_homeOf_0 : decode cX8_homeOf 0 = .ok (.iconst (-1), 1) := by decide +kernel
theorem dX8_homeOf_1 : decode cX8_homeOf 1 = .ok (.istore_n 2, 1) := by decide +kernel
theorem dX8_homeOf_2 : decode cX8_homeOf 2 = .ok (.iconst 0, 1) := by decide +kernel
theorem dX8_homeOf_3 : decode cX8_homeOf 3 = .ok (.istore_n 3, 1) := by decide +kernel
theorem dX8_homeOf_4 : decode cX8_homeOf 4 = .ok (.iload_n 3, 1) := by decide +kernel
theorem dX8_homeOf_5 : decode cX8_homeOf 5 = .ok (.aload_n 0, 1) := by decide +kernel
theorem dX8_homeOf_6 : decode cX8_homeOf 6 = .ok (.getfield 7, 3) := by decide +kernel
theorem dX8_homeOf_9 : decode cX8_homeOf 9 = .ok (.iconst 0, 1) := by decide +kernel
theorem dX8_homeOf_10 : decode cX8_homeOf 10 = .ok (.iaload, 1) := by decide +kernel
theorem dX8_homeOf_11 : decode cX8_homeOf 11 = .ok (.if_icmp .ge 26, 3) := by decide +kernel
theorem dX8_homeOf_14 : decode cX8_homeOf 14 = .ok (.aload_n 0, 1) := by decide +kernel
theorem dX8_homeOf_15 : decode cX8_homeOf 15 = .ok (.iload_n 3, 1) := by decide +kernel
theorem dX8_homeOf_16 : decode cX8_homeOf 16 = .ok (.iload_n 1, 1) := by decide +kernel
theorem dX8_homeOf_17 : decode cX8_homeOf 17 = .ok (.iload_n 1, 1) := by decide +kernel
theorem dX8_homeOf_18 : decode cX8_homeOf 18 = .ok (.invokevirtual 103, 3) := by decide +kernel
theorem dX8_homeOf_21 : decode cX8_homeOf 21 = .ok (.iconst 1, 1) := by decide +kernel
theorem dX8_homeOf_22 : decode cX8_homeOf 22 = .ok (.if_icmp .ne 7, 3) := by decide +kernel
theorem dX8_homeOf_25 : decode cX8_homeOf 25 = .ok (.iload_n 3, 1) := by decide +kernel
theorem dX8_homeOf_26 : decode cX8_homeOf 26 = .ok (.goto 4, 3) := by decide +kernel
theorem dX8_homeOf_29 : decode cX8_homeOf 29 = .ok (.iload_n 2, 1) := by decide +kernel
theorem dX8_homeOf_30 : decode cX8_homeOf 30 = .ok (.istore_n 2, 1) := by decide +kernel
theorem dX8_homeOf_31 : decode cX8_homeOf 31 = .ok (.iinc 3 1, 3) := by decide +kernel
theorem dX8_homeOf_34 : decode cX8_homeOf 34 = .ok (.goto (-30), 3) := by decide +kernel
theorem dX8_homeOf_37 : decode cX8_homeOf 37 = .ok (.iload_n 2, 1) := by decide +kernel
theorem dX8_homeOf_38 : decode cX8_homeOf 38 = .ok (.ireturn, 1) := by decide +kernel
theorem dX8_finds_0 : decode cX8_finds 0 = .ok (.iload_n 2, 1) := by decide +kernel
theorem dX8_finds_1 : decode cX8_finds 1 = .ok (.aload_n 0, 1) := by decide +kernel
theorem dX8_finds_2 : decode cX8_finds 2 = .ok (.iload_n 1, 1) := by decide +kernel
theorem dX8_finds_3 : decode cX8_finds 3 = .ok (.invokevirtual 93, 3) := by decide +kernel
theorem dX8_finds_6 : decode cX8_finds 6 = .ok (.invokestatic 64, 3) := by decide +kernel
theorem dX8_finds_9 : decode cX8_finds 9 = .ok (.istore_n 3, 1) := by decide +kernel
theorem dX8_finds_10 : decode cX8_finds 10 = .ok (.iconst 0, 1) := by decide +kernel
theorem dX8_finds_11 : decode cX8_finds 11 = .ok (.istore 4, 2) := by decide +kernel
theorem dX8_finds_13 : decode cX8_finds 13 = .ok (.iload 4, 2) := by decide +kernel
theorem dX8_finds_15 : decode cX8_finds 15 = .ok (.aload_n 0, 1) := by decide +kernel
theorem dX8_finds_16 : decode cX8_finds 16 = .ok (.getfield 7, 3) := by decide +kernel
theorem dX8_finds_19 : decode cX8_finds 19 = .ok (.iconst 1, 1) := by decide +kernel
theorem dX8_finds_20 : decode cX8_finds 20 = .ok (.iaload, 1) := by decide +kernel
theorem dX8_finds_21 : decode cX8_finds 21 = .ok (.if_icmp .ge 47, 3) := by decide +kernel
theorem dX8_finds_24 : decode cX8_finds 24 = .ok (.iload_n 3, 1) := by decide +kernel
theorem dX8_finds_25 : decode cX8_finds 25 = .ok (.i2l, 1) := by decide +kernel
theorem dX8_finds_26 : decode cX8_finds 26 = .ok (.aload_n 0, 1) := by decide +kernel
theorem dX8_finds_27 : decode cX8_finds 27 = .ok (.iload 4, 2) := by decide +kernel
theorem dX8_finds_29 : decode cX8_finds 29 = .ok (.iconst 0, 1) := by decide +kernel
theorem dX8_finds_30 : decode cX8_finds 30 = .ok (.invokevirtual 71, 3) := by decide +kernel
theorem dX8_finds_33 : decode cX8_finds 33 = .ok (.i2l, 1) := by decide +kernel
theorem dX8_finds_34 : decode cX8_finds 34 = .ok (.aload_n 0, 1) := by decide +kernel
theorem dX8_finds_35 : decode cX8_finds 35 = .ok (.iload 4, 2) := by decide +kernel
theorem dX8_finds_37 : decode cX8_finds 37 = .ok (.iconst 1, 1) := by decide +kernel
theorem dX8_finds_38 : decode cX8_finds 38 = .ok (.invokevirtual 71, 3) := by decide +kernel
theorem dX8_finds_41 : decode cX8_finds 41 = .ok (.i2l, 1) := by decide +kernel
theorem dX8_finds_42 : decode cX8_finds 42 = .ok (.invokestatic 58, 3) := by decide +kernel
theorem dX8_finds_45 : decode cX8_finds 45 = .ok (.ifCond .eq 15, 3) := by decide +kernel
theorem dX8_finds_48 : decode cX8_finds 48 = .ok (.aload_n 0, 1) := by decide +kernel
theorem dX8_finds_49 : decode cX8_finds 49 = .ok (.iload 4, 2) := by decide +kernel
theorem dX8_finds_51 : decode cX8_finds 51 = .ok (.iconst 1, 1) := by decide +kernel
theorem dX8_finds_52 : decode cX8_finds 52 = .ok (.invokevirtual 71, 3) := by decide +kernel
theorem dX8_finds_55 : decode cX8_finds 55 = .ok (.iconst 1, 1) := by decide +kernel
theorem dX8_finds_56 : decode cX8_finds 56 = .ok (.iadd, 1) := by decide +kernel
theorem dX8_finds_57 : decode cX8_finds 57 = .ok (.goto 4, 3) := by decide +kernel
theorem dX8_finds_60 : decode cX8_finds 60 = .ok (.iload_n 3, 1) := by decide +kernel
theorem dX8_finds_61 : decode cX8_finds 61 = .ok (.istore_n 3, 1) := by decide +kernel
theorem dX8_finds_62 : decode cX8_finds 62 = .ok (.iinc 4 1, 3) := by decide +kernel
theorem dX8_finds_65 : decode cX8_finds 65 = .ok (.goto (-52), 3) := by decide +kernel
theorem dX8_finds_68 : decode cX8_finds 68 = .ok (.aload_n 0, 1) := by decide +kernel
theorem dX8_finds_69 : decode cX8_finds 69 = .ok (.iload_n 3, 1) := by decide +kernel
theorem dX8_finds_70 : decode cX8_finds 70 = .ok (.putfield 106, 3) := by decide +kernel
theorem dX8_finds_73 : decode cX8_finds 73 = .ok (.aload_n 0, 1) := by decide +kernel
theorem dX8_finds_74 : decode cX8_finds 74 = .ok (.aload_n 0, 1) := by decide +kernel
theorem dX8_finds_75 : decode cX8_finds 75 = .ok (.iload_n 1, 1) := by decide +kernel
theorem dX8_finds_76 : decode cX8_finds 76 = .ok (.invokevirtual 97, 3) := by decide +kernel
theorem dX8_finds_79 : decode cX8_finds 79 = .ok (.putfield 109, 3) := by decide +kernel
theorem dX8_finds_82 : decode cX8_finds 82 = .ok (.iconst 0, 1) := by decide +kernel
theorem dX8_finds_83 : decode cX8_finds 83 = .ok (.istore 4, 2) := by decide +kernel
theorem dX8_finds_85 : decode cX8_finds 85 = .ok (.iload 4, 2) := by decide +kernel
theorem dX8_finds_87 : decode cX8_finds 87 = .ok (.aload_n 0, 1) := by decide +kernel
theorem dX8_finds_88 : decode cX8_finds 88 = .ok (.getfield 7, 3) := by decide +kernel
theorem dX8_finds_91 : decode cX8_finds 91 = .ok (.iconst 1, 1) := by decide +kernel
theorem dX8_finds_92 : decode cX8_finds 92 = .ok (.iaload, 1) := by decide +kernel
theorem dX8_finds_93 : decode cX8_finds 93 = .ok (.if_icmp .ge 47, 3) := by decide +kernel
theorem dX8_finds_96 : decode cX8_finds 96 = .ok (.aload_n 0, 1) := by decide +kernel
theorem dX8_finds_97 : decode cX8_finds 97 = .ok (.aload_n 0, 1) := by decide +kernel
theorem dX8_finds_98 : decode cX8_finds 98 = .ok (.iload 4, 2) := by decide +kernel
theorem dX8_finds_100 : decode cX8_finds 100 = .ok (.iconst 0, 1) := by decide +kernel
theorem dX8_finds_101 : decode cX8_finds 101 = .ok (.invokevirtual 71, 3) := by decide +kernel
theorem dX8_finds_104 : decode cX8_finds 104 = .ok (.iload_n 3, 1) := by decide +kernel
theorem dX8_finds_105 : decode cX8_finds 105 = .ok (.if_icmp .le 22, 3) := by decide +kernel
theorem dX8_finds_108 : decode cX8_finds 108 = .ok (.aload_n 0, 1) := by decide +kernel
theorem dX8_finds_109 : decode cX8_finds 109 = .ok (.getfield 109, 3) := by decide +kernel
theorem dX8_finds_112 : decode cX8_finds 112 = .ok (.aload_n 0, 1) := by decide +kernel
theorem dX8_finds_113 : decode cX8_finds 113 = .ok (.iload 4, 2) := by decide +kernel
theorem dX8_finds_115 : decode cX8_finds 115 = .ok (.iconst 0, 1) := by decide +kernel
theorem dX8_finds_116 : decode cX8_finds 116 = .ok (.invokevirtual 71, 3) := by decide +kernel
theorem dX8_finds_119 : decode cX8_finds 119 = .ok (.iconst 1, 1) := by decide +kernel
theorem dX8_finds_120 : decode cX8_finds 120 = .ok (.isub, 1) := by decide +kernel
theorem dX8_finds_121 : decode cX8_finds 121 = .ok (.invokestatic 68, 3) := by decide +kernel
theorem dX8_finds_124 : decode cX8_finds 124 = .ok (.goto 7, 3) := by decide +kernel
theorem dX8_finds_127 : decode cX8_finds 127 = .ok (.aload_n 0, 1) := by decide +kernel
theorem dX8_finds_128 : decode cX8_finds 128 = .ok (.getfield 109, 3) := by decide +kernel
theorem dX8_finds_131 : decode cX8_finds 131 = .ok (.putfield 109, 3) := by decide +kernel
theorem dX8_finds_134 : decode cX8_finds 134 = .ok (.iinc 4 1, 3) := by decide +kernel
theorem dX8_finds_137 : decode cX8_finds 137 = .ok (.goto (-52), 3) := by decide +kernel
theorem dX8_finds_140 : decode cX8_finds 140 = .ok (.iload_n 3, 1) := by decide +kernel
theorem dX8_finds_141 : decode cX8_finds 141 = .ok (.aload_n 0, 1) := by decide +kernel
theorem dX8_finds_142 : decode cX8_finds 142 = .ok (.iload_n 1, 1) := by decide +kernel
theorem dX8_finds_143 : decode cX8_finds 143 = .ok (.invokevirtual 97, 3) := by decide +kernel
theorem dX8_finds_146 : decode cX8_finds 146 = .ok (.if_icmp .gt 7, 3) := by decide +kernel
theorem dX8_finds_149 : decode cX8_finds 149 = .ok (.iconst 1, 1) := by decide +kernel
theorem dX8_finds_150 : decode cX8_finds 150 = .ok (.goto 4, 3) := by decide +kernel
theorem dX8_finds_153 : decode cX8_finds 153 = .ok (.iconst 0, 1) := by decide +kernel
theorem dX8_finds_154 : decode cX8_finds 154 = .ok (.ireturn, 1) := by decide +kernel
theorem dX8_gaps_0 : decode cX8_gaps 0 = .ok (.iconst 0, 1) := by decide +kernel
theorem dX8_gaps_1 : decode cX8_gaps 1 = .ok (.istore_n 2, 1) := by decide +kernel
theorem dX8_gaps_2 : decode cX8_gaps 2 = .ok (.iconst 1, 1) := by decide +kernel
theorem dX8_gaps_3 : decode cX8_gaps 3 = .ok (.istore_n 3, 1) := by decide +kernel
theorem dX8_gaps_4 : decode cX8_gaps 4 = .ok (.aload_n 0, 1) := by decide +kernel
theorem dX8_gaps_5 : decode cX8_gaps 5 = .ok (.iload_n 1, 1) := by decide +kernel
theorem dX8_gaps_6 : decode cX8_gaps 6 = .ok (.iload_n 3, 1) := by decide +kernel
theorem dX8_gaps_7 : decode cX8_gaps 7 = .ok (.invokevirtual 112, 3) := by decide +kernel
theorem dX8_gaps_10 : decode cX8_gaps 10 = .ok (.ifCond .eq 16, 3) := by decide +kernel
theorem dX8_gaps_13 : decode cX8_gaps 13 = .ok (.iinc 2 1, 3) := by decide +kernel
theorem dX8_gaps_16 : decode cX8_gaps 16 = .ok (.aload_n 0, 1) := by decide +kernel
theorem dX8_gaps_17 : decode cX8_gaps 17 = .ok (.getfield 109, 3) := by decide +kernel
theorem dX8_gaps_20 : decode cX8_gaps 20 = .ok (.iconst 1, 1) := by decide +kernel
theorem dX8_gaps_21 : decode cX8_gaps 21 = .ok (.iadd, 1) := by decide +kernel
theorem dX8_gaps_22 : decode cX8_gaps 22 = .ok (.istore_n 3, 1) := by decide +kernel
theorem dX8_gaps_23 : decode cX8_gaps 23 = .ok (.goto (-19), 3) := by decide +kernel
theorem dX8_gaps_26 : decode cX8_gaps 26 = .ok (.iload_n 2, 1) := by decide +kernel
theorem dX8_gaps_27 : decode cX8_gaps 27 = .ok (.ireturn, 1) := by decide +kernel
theorem dX8_findsGap_0 : decode cX8_findsGap 0 = .ok (.aload_n 0, 1) := by decide +kernel
theorem dX8_findsGap_1 : decode cX8_findsGap 1 = .ok (.iload_n 1, 1) := by decide +kernel
theorem dX8_findsGap_2 : decode cX8_findsGap 2 = .ok (.iconst 1, 1) := by decide +kernel
theorem dX8_findsGap_3 : decode cX8_findsGap 3 = .ok (.invokevirtual 112, 3) := by decide +kernel
theorem dX8_findsGap_6 : decode cX8_findsGap 6 = .ok (.istore_n 3, 1) := by decide +kernel
theorem dX8_findsGap_7 : decode cX8_findsGap 7 = .ok (.iconst 0, 1) := by decide +kernel
theorem dX8_findsGap_8 : decode cX8_findsGap 8 = .ok (.istore 4, 2) := by decide +kernel
theorem dX8_findsGap_10 : decode cX8_findsGap 10 = .ok (.iload 4, 2) := by decide +kernel
theorem dX8_findsGap_12 : decode cX8_findsGap 12 = .ok (.iload_n 2, 1) := by decide +kernel
theorem dX8_findsGap_13 : decode cX8_findsGap 13 = .ok (.if_icmp .ge 25, 3) := by decide +kernel
theorem dX8_findsGap_16 : decode cX8_findsGap 16 = .ok (.iload_n 3, 1) := by decide +kernel
theorem dX8_findsGap_17 : decode cX8_findsGap 17 = .ok (.ifCond .eq 21, 3) := by decide +kernel
theorem dX8_findsGap_20 : decode cX8_findsGap 20 = .ok (.aload_n 0, 1) := by decide +kernel
theorem dX8_findsGap_21 : decode cX8_findsGap 21 = .ok (.iload_n 1, 1) := by decide +kernel
theorem dX8_findsGap_22 : decode cX8_findsGap 22 = .ok (.aload_n 0, 1) := by decide +kernel
theorem dX8_findsGap_23 : decode cX8_findsGap 23 = .ok (.getfield 109, 3) := by decide +kernel
theorem dX8_findsGap_26 : decode cX8_findsGap 26 = .ok (.iconst 1, 1) := by decide +kernel
theorem dX8_findsGap_27 : decode cX8_findsGap 27 = .ok (.iadd, 1) := by decide +kernel
theorem dX8_findsGap_28 : decode cX8_findsGap 28 = .ok (.invokevirtual 112, 3) := by decide +kernel
theorem dX8_findsGap_31 : decode cX8_findsGap 31 = .ok (.istore_n 3, 1) := by decide +kernel
theorem dX8_findsGap_32 : decode cX8_findsGap 32 = .ok (.iinc 4 1, 3) := by decide +kernel
theorem dX8_findsGap_35 : decode cX8_findsGap 35 = .ok (.goto (-25), 3) := by decide +kernel
theorem dX8_findsGap_38 : decode cX8_findsGap 38 = .ok (.iload_n 3, 1) := by decide +kernel
theorem dX8_findsGap_39 : decode cX8_findsGap 39 = .ok (.ireturn, 1) := by decide +kernel
theorem dX8_bestFor_0 : decode cX8_bestFor 0 = .ok (.iconst (-1), 1) := by decide +kernel
theorem dX8_bestFor_1 : decode cX8_bestFor 1 = .ok (.istore_n 2, 1) := by decide +kernel
theorem dX8_bestFor_2 : decode cX8_bestFor 2 = .ok (.iconst (-1), 1) := by decide +kernel
theorem dX8_bestFor_3 : decode cX8_bestFor 3 = .ok (.istore_n 3, 1) := by decide +kernel
theorem dX8_bestFor_4 : decode cX8_bestFor 4 = .ok (.bipush 7, 2) := by decide +kernel
theorem dX8_bestFor_6 : decode cX8_bestFor 6 = .ok (.istore 4, 2) := by decide +kernel
theorem dX8_bestFor_8 : decode cX8_bestFor 8 = .ok (.iload 4, 2) := by decide +kernel
theorem dX8_bestFor_10 : decode cX8_bestFor 10 = .ok (.ifCond .lt 86, 3) := by decide +kernel
theorem dX8_bestFor_13 : decode cX8_bestFor 13 = .ok (.aload_n 0, 1) := by decide +kernel
theorem dX8_bestFor_14 : decode cX8_bestFor 14 = .ok (.getfield 28, 3) := by decide +kernel
theorem dX8_bestFor_17 : decode cX8_bestFor 17 = .ok (.iload 4, 2) := by decide +kernel
theorem dX8_bestFor_19 : decode cX8_bestFor 19 = .ok (.iaload, 1) := by decide +kernel
theorem dX8_bestFor_20 : decode cX8_bestFor 20 = .ok (.iload_n 1, 1) := by decide +kernel
theorem dX8_bestFor_21 : decode cX8_bestFor 21 = .ok (.if_icmp .lt 29, 3) := by decide +kernel
theorem dX8_bestFor_24 : decode cX8_bestFor 24 = .ok (.iload_n 2, 1) := by decide +kernel
theorem dX8_bestFor_25 : decode cX8_bestFor 25 = .ok (.iconst (-1), 1) := by decide +kernel
theorem dX8_bestFor_26 : decode cX8_bestFor 26 = .ok (.if_icmp .eq 19, 3) := by decide +kernel
theorem dX8_bestFor_29 : decode cX8_bestFor 29 = .ok (.aload_n 0, 1) := by decide +kernel
theorem dX8_bestFor_30 : decode cX8_bestFor 30 = .ok (.getfield 28, 3) := by decide +kernel
theorem dX8_bestFor_33 : decode cX8_bestFor 33 = .ok (.iload 4, 2) := by decide +kernel
theorem dX8_bestFor_35 : decode cX8_bestFor 35 = .ok (.iaload, 1) := by decide +kernel
theorem dX8_bestFor_36 : decode cX8_bestFor 36 = .ok (.aload_n 0, 1) := by decide +kernel
theorem dX8_bestFor_37 : decode cX8_bestFor 37 = .ok (.getfield 28, 3) := by decide +kernel
theorem dX8_bestFor_40 : decode cX8_bestFor 40 = .ok (.iload_n 2, 1) := by decide +kernel
theorem dX8_bestFor_41 : decode cX8_bestFor 41 = .ok (.iaload, 1) := by decide +kernel
theorem dX8_bestFor_42 : decode cX8_bestFor 42 = .ok (.if_icmp .gt 8, 3) := by decide +kernel
theorem dX8_bestFor_45 : decode cX8_bestFor 45 = .ok (.iload 4, 2) := by decide +kernel
theorem dX8_bestFor_47 : decode cX8_bestFor 47 = .ok (.goto 4, 3) := by decide +kernel
theorem dX8_bestFor_50 : decode cX8_bestFor 50 = .ok (.iload_n 2, 1) := by decide +kernel
theorem dX8_bestFor_51 : decode cX8_bestFor 51 = .ok (.istore_n 2, 1) := by decide +kernel
theorem dX8_bestFor_52 : decode cX8_bestFor 52 = .ok (.aload_n 0, 1) := by decide +kernel
theorem dX8_bestFor_53 : decode cX8_bestFor 53 = .ok (.getfield 28, 3) := by decide +kernel
theorem dX8_bestFor_56 : decode cX8_bestFor 56 = .ok (.iload 4, 2) := by decide +kernel
theorem dX8_bestFor_58 : decode cX8_bestFor 58 = .ok (.iaload, 1) := by decide +kernel
theorem dX8_bestFor_59 : decode cX8_bestFor 59 = .ok (.ifCond .le 29, 3) := by decide +kernel
theorem dX8_bestFor_62 : decode cX8_bestFor 62 = .ok (.iload_n 3, 1) := by decide +kernel
theorem dX8_bestFor_63 : decode cX8_bestFor 63 = .ok (.iconst (-1), 1) := by decide +kernel
theorem dX8_bestFor_64 : decode cX8_bestFor 64 = .ok (.if_icmp .eq 19, 3) := by decide +kernel
theorem dX8_bestFor_67 : decode cX8_bestFor 67 = .ok (.aload_n 0, 1) := by decide +kernel
theorem dX8_bestFor_68 : decode cX8_bestFor 68 = .ok (.getfield 28, 3) := by decide +kernel
theorem dX8_bestFor_71 : decode cX8_bestFor 71 = .ok (.iload 4, 2) := by decide +kernel
theorem dX8_bestFor_73 : decode cX8_bestFor 73 = .ok (.iaload, 1) := by decide +kernel
theorem dX8_bestFor_74 : decode cX8_bestFor 74 = .ok (.aload_n 0, 1) := by decide +kernel
theorem dX8_bestFor_75 : decode cX8_bestFor 75 = .ok (.getfield 28, 3) := by decide +kernel
theorem dX8_bestFor_78 : decode cX8_bestFor 78 = .ok (.iload_n 3, 1) := by decide +kernel
theorem dX8_bestFor_79 : decode cX8_bestFor 79 = .ok (.iaload, 1) := by decide +kernel
theorem dX8_bestFor_80 : decode cX8_bestFor 80 = .ok (.if_icmp .lt 8, 3) := by decide +kernel
theorem dX8_bestFor_83 : decode cX8_bestFor 83 = .ok (.iload 4, 2) := by decide +kernel
theorem dX8_bestFor_85 : decode cX8_bestFor 85 = .ok (.goto 4, 3) := by decide +kernel
theorem dX8_bestFor_88 : decode cX8_bestFor 88 = .ok (.iload_n 3, 1) := by decide +kernel
theorem dX8_bestFor_89 : decode cX8_bestFor 89 = .ok (.istore_n 3, 1) := by decide +kernel
theorem dX8_bestFor_90 : decode cX8_bestFor 90 = .ok (.iinc 4 (-1), 3) := by decide +kernel
theorem dX8_bestFor_93 : decode cX8_bestFor 93 = .ok (.goto (-85), 3) := by decide +kernel
theorem dX8_bestFor_96 : decode cX8_bestFor 96 = .ok (.iload_n 2, 1) := by decide +kernel
theorem dX8_bestFor_97 : decode cX8_bestFor 97 = .ok (.iconst (-1), 1) := by decide +kernel
theorem dX8_bestFor_98 : decode cX8_bestFor 98 = .ok (.if_icmp .eq 7, 3) := by decide +kernel
theorem dX8_bestFor_101 : decode cX8_bestFor 101 = .ok (.iload_n 2, 1) := by decide +kernel
theorem dX8_bestFor_102 : decode cX8_bestFor 102 = .ok (.goto 4, 3) := by decide +kernel
theorem dX8_bestFor_105 : decode cX8_bestFor 105 = .ok (.iload_n 3, 1) := by decide +kernel
theorem dX8_bestFor_106 : decode cX8_bestFor 106 = .ok (.ireturn, 1) := by decide +kernel
theorem dX8_plans_0 : decode cX8_plans 0 = .ok (.aload_n 0, 1) := by decide +kernel
theorem dX8_plans_1 : decode cX8_plans 1 = .ok (.iconst 0, 1) := by decide +kernel
theorem dX8_plans_2 : decode cX8_plans 2 = .ok (.putfield 116, 3) := by decide +kernel
theorem dX8_plans_5 : decode cX8_plans 5 = .ok (.iconst 0, 1) := by decide +kernel
theorem dX8_plans_6 : decode cX8_plans 6 = .ok (.istore_n 2, 1) := by decide +kernel
theorem dX8_plans_7 : decode cX8_plans 7 = .ok (.iload_n 2, 1) := by decide +kernel
theorem dX8_plans_8 : decode cX8_plans 8 = .ok (.bipush 8, 2) := by decide +kernel
theorem dX8_plans_10 : decode cX8_plans 10 = .ok (.if_icmp .ge 30, 3) := by decide +kernel
theorem dX8_plans_13 : decode cX8_plans 13 = .ok (.aload_n 0, 1) := by decide +kernel
theorem dX8_plans_14 : decode cX8_plans 14 = .ok (.getfield 28, 3) := by decide +kernel
theorem dX8_plans_17 : decode cX8_plans 17 = .ok (.iload_n 2, 1) := by decide +kernel
theorem dX8_plans_18 : decode cX8_plans 18 = .ok (.aload_n 0, 1) := by decide +kernel
theorem dX8_plans_19 : decode cX8_plans 19 = .ok (.getfield 7, 3) := by decide +kernel
theorem dX8_plans_22 : decode cX8_plans 22 = .ok (.bipush 34, 2) := by decide +kernel
theorem dX8_plans_24 : decode cX8_plans 24 = .ok (.iload_n 2, 1) := by decide +kernel
theorem dX8_plans_25 : decode cX8_plans 25 = .ok (.iadd, 1) := by decide +kernel
theorem dX8_plans_26 : decode cX8_plans 26 = .ok (.iaload, 1) := by decide +kernel
theorem dX8_plans_27 : decode cX8_plans 27 = .ok (.aload_n 0, 1) := by decide +kernel
theorem dX8_plans_28 : decode cX8_plans 28 = .ok (.iload_n 2, 1) := by decide +kernel
theorem dX8_plans_29 : decode cX8_plans 29 = .ok (.invokevirtual 119, 3) := by decide +kernel
theorem dX8_plans_32 : decode cX8_plans 32 = .ok (.isub, 1) := by decide +kernel
theorem dX8_plans_33 : decode cX8_plans 33 = .ok (.iastore, 1) := by decide +kernel
theorem dX8_plans_34 : decode cX8_plans 34 = .ok (.iinc 2 1, 3) := by decide +kernel
theorem dX8_plans_37 : decode cX8_plans 37 = .ok (.goto (-30), 3) := by decide +kernel
theorem dX8_plans_40 : decode cX8_plans 40 = .ok (.iconst 1, 1) := by decide +kernel
theorem dX8_plans_41 : decode cX8_plans 41 = .ok (.istore_n 2, 1) := by decide +kernel
theorem dX8_plans_42 : decode cX8_plans 42 = .ok (.aload_n 0, 1) := by decide +kernel
theorem dX8_plans_43 : decode cX8_plans 43 = .ok (.iload_n 1, 1) := by decide +kernel
theorem dX8_plans_44 : decode cX8_plans 44 = .ok (.iload_n 2, 1) := by decide +kernel
theorem dX8_plans_45 : decode cX8_plans 45 = .ok (.invokevirtual 112, 3) := by decide +kernel
theorem dX8_plans_48 : decode cX8_plans 48 = .ok (.ifCond .eq 168, 3) := by decide +kernel
theorem dX8_plans_51 : decode cX8_plans 51 = .ok (.aload_n 0, 1) := by decide +kernel
theorem dX8_plans_52 : decode cX8_plans 52 = .ok (.getfield 106, 3) := by decide +kernel
theorem dX8_plans_55 : decode cX8_plans 55 = .ok (.istore_n 3, 1) := by decide +kernel
theorem dX8_plans_56 : decode cX8_plans 56 = .ok (.aload_n 0, 1) := by decide +kernel
theorem dX8_plans_57 : decode cX8_plans 57 = .ok (.aload_n 0, 1) := by decide +kernel
theorem dX8_plans_58 : decode cX8_plans 58 = .ok (.getfield 109, 3) := by decide +kernel
theorem dX8_plans_61 : decode cX8_plans 61 = .ok (.iload_n 3, 1) := by decide +kernel
theorem dX8_plans_62 : decode cX8_plans 62 = .ok (.isub, 1) := by decide +kernel
theorem dX8_plans_63 : decode cX8_plans 63 = .ok (.iconst 1, 1) := by decide +kernel
theorem dX8_plans_64 : decode cX8_plans 64 = .ok (.iadd, 1) := by decide +kernel
theorem dX8_plans_65 : decode cX8_plans 65 = .ok (.invokevirtual 122, 3) := by decide +kernel
theorem dX8_plans_68 : decode cX8_plans 68 = .ok (.istore 4, 2) := by decide +kernel
theorem dX8_plans_70 : decode cX8_plans 70 = .ok (.iload_n 3, 1) := by decide +kernel
theorem dX8_plans_71 : decode cX8_plans 71 = .ok (.aload_n 0, 1) := by decide +kernel
theorem dX8_plans_72 : decode cX8_plans 72 = .ok (.getfield 109, 3) := by decide +kernel
theorem dX8_plans_75 : decode cX8_plans 75 = .ok (.if_icmp .gt 131, 3) := by decide +kernel
theorem dX8_plans_78 : decode cX8_plans 78 = .ok (.iload 4, 2) := by decide +kernel
theorem dX8_plans_80 : decode cX8_plans 80 = .ok (.iconst (-1), 1) := by decide +kernel
theorem dX8_plans_81 : decode cX8_plans 81 = .ok (.if_icmp .eq 125, 3) := by decide +kernel
theorem dX8_plans_84 : decode cX8_plans 84 = .ok (.aload_n 0, 1) := by decide +kernel
theorem dX8_plans_85 : decode cX8_plans 85 = .ok (.getfield 28, 3) := by decide +kernel
theorem dX8_plans_88 : decode cX8_plans 88 = .ok (.iload 4, 2) := by decide +kernel
theorem dX8_plans_90 : decode cX8_plans 90 = .ok (.iaload, 1) := by decide +kernel
theorem dX8_plans_91 : decode cX8_plans 91 = .ok (.aload_n 0, 1) := by decide +kernel
theorem dX8_plans_92 : decode cX8_plans 92 = .ok (.getfield 109, 3) := by decide +kernel
theorem dX8_plans_95 : decode cX8_plans 95 = .ok (.iload_n 3, 1) := by decide +kernel
theorem dX8_plans_96 : decode cX8_plans 96 = .ok (.isub, 1) := by decide +kernel
theorem dX8_plans_97 : decode cX8_plans 97 = .ok (.iconst 1, 1) := by decide +kernel
theorem dX8_plans_98 : decode cX8_plans 98 = .ok (.iadd, 1) := by decide +kernel
theorem dX8_plans_99 : decode cX8_plans 99 = .ok (.invokestatic 68, 3) := by decide +kernel
theorem dX8_plans_102 : decode cX8_plans 102 = .ok (.istore 5, 2) := by decide +kernel
theorem dX8_plans_104 : decode cX8_plans 104 = .ok (.aload_n 0, 1) := by decide +kernel
theorem dX8_plans_105 : decode cX8_plans 105 = .ok (.getfield 25, 3) := by decide +kernel
theorem dX8_plans_108 : decode cX8_plans 108 = .ok (.iconst 3, 1) := by decide +kernel
theorem dX8_plans_109 : decode cX8_plans 109 = .ok (.aload_n 0, 1) := by decide +kernel
theorem dX8_plans_110 : decode cX8_plans 110 = .ok (.getfield 116, 3) := by decide +kernel
theorem dX8_plans_113 : decode cX8_plans 113 = .ok (.imul, 1) := by decide +kernel
theorem dX8_plans_114 : decode cX8_plans 114 = .ok (.iload_n 3, 1) := by decide +kernel
theorem dX8_plans_115 : decode cX8_plans 115 = .ok (.iastore, 1) := by decide +kernel
theorem dX8_plans_116 : decode cX8_plans 116 = .ok (.aload_n 0, 1) := by decide +kernel
theorem dX8_plans_117 : decode cX8_plans 117 = .ok (.getfield 25, 3) := by decide +kernel
theorem dX8_plans_120 : decode cX8_plans 120 = .ok (.iconst 3, 1) := by decide +kernel
theorem dX8_plans_121 : decode cX8_plans 121 = .ok (.aload_n 0, 1) := by decide +kernel
theorem dX8_plans_122 : decode cX8_plans 122 = .ok (.getfield 116, 3) := by decide +kernel
theorem dX8_plans_125 : decode cX8_plans 125 = .ok (.imul, 1) := by decide +kernel
theorem dX8_plans_126 : decode cX8_plans 126 = .ok (.iconst 1, 1) := by decide +kernel
theorem dX8_plans_127 : decode cX8_plans 127 = .ok (.iadd, 1) := by decide +kernel
theorem dX8_plans_128 : decode cX8_plans 128 = .ok (.iload_n 3, 1) := by decide +kernel
theorem dX8_plans_129 : decode cX8_plans 129 = .ok (.iload 5, 2) := by decide +kernel
theorem dX8_plans_131 : decode cX8_plans 131 = .ok (.iadd, 1) := by decide +kernel
theorem dX8_plans_132 : decode cX8_plans 132 = .ok (.iconst 1, 1) := by decide +kernel
theorem dX8_plans_133 : decode cX8_plans 133 = .ok (.isub, 1) := by decide +kernel
theorem dX8_plans_134 : decode cX8_plans 134 = .ok (.iastore, 1) := by decide +kernel
theorem dX8_plans_135 : decode cX8_plans 135 = .ok (.aload_n 0, 1) := by decide +kernel
theorem dX8_plans_136 : decode cX8_plans 136 = .ok (.getfield 25, 3) := by decide +kernel
theorem dX8_plans_139 : decode cX8_plans 139 = .ok (.iconst 3, 1) := by decide +kernel
theorem dX8_plans_140 : decode cX8_plans 140 = .ok (.aload_n 0, 1) := by decide +kernel
theorem dX8_plans_141 : decode cX8_plans 141 = .ok (.getfield 116, 3) := by decide +kernel
theorem dX8_plans_144 : decode cX8_plans 144 = .ok (.imul, 1) := by decide +kernel
theorem dX8_plans_145 : decode cX8_plans 145 = .ok (.iconst 2, 1) := by decide +kernel
theorem dX8_plans_146 : decode cX8_plans 146 = .ok (.iadd, 1) := by decide +kernel
theorem dX8_plans_147 : decode cX8_plans 147 = .ok (.iload 4, 2) := by decide +kernel
theorem dX8_plans_149 : decode cX8_plans 149 = .ok (.iastore, 1) := by decide +kernel
theorem dX8_plans_150 : decode cX8_plans 150 = .ok (.aload_n 0, 1) := by decide +kernel
theorem dX8_plans_151 : decode cX8_plans 151 = .ok (.dup, 1) := by decide +kernel
theorem dX8_plans_152 : decode cX8_plans 152 = .ok (.getfield 116, 3) := by decide +kernel
theorem dX8_plans_155 : decode cX8_plans 155 = .ok (.iconst 1, 1) := by decide +kernel
theorem dX8_plans_156 : decode cX8_plans 156 = .ok (.iadd, 1) := by decide +kernel
theorem dX8_plans_157 : decode cX8_plans 157 = .ok (.putfield 116, 3) := by decide +kernel
theorem dX8_plans_160 : decode cX8_plans 160 = .ok (.aload_n 0, 1) := by decide +kernel
theorem dX8_plans_161 : decode cX8_plans 161 = .ok (.getfield 28, 3) := by decide +kernel
theorem dX8_plans_164 : decode cX8_plans 164 = .ok (.iload 4, 2) := by decide +kernel
theorem dX8_plans_166 : decode cX8_plans 166 = .ok (.dup2, 1) := by decide +kernel
theorem dX8_plans_167 : decode cX8_plans 167 = .ok (.iaload, 1) := by decide +kernel
theorem dX8_plans_168 : decode cX8_plans 168 = .ok (.iload 5, 2) := by decide +kernel
theorem dX8_plans_170 : decode cX8_plans 170 = .ok (.isub, 1) := by decide +kernel
theorem dX8_plans_171 : decode cX8_plans 171 = .ok (.iastore, 1) := by decide +kernel
theorem dX8_plans_172 : decode cX8_plans 172 = .ok (.iload_n 3, 1) := by decide +kernel
theorem dX8_plans_173 : decode cX8_plans 173 = .ok (.iload 5, 2) := by decide +kernel
theorem dX8_plans_175 : decode cX8_plans 175 = .ok (.iadd, 1) := by decide +kernel
theorem dX8_plans_176 : decode cX8_plans 176 = .ok (.istore_n 3, 1) := by decide +kernel
theorem dX8_plans_177 : decode cX8_plans 177 = .ok (.iload_n 3, 1) := by decide +kernel
theorem dX8_plans_178 : decode cX8_plans 178 = .ok (.aload_n 0, 1) := by decide +kernel
theorem dX8_plans_179 : decode cX8_plans 179 = .ok (.getfield 109, 3) := by decide +kernel
theorem dX8_plans_182 : decode cX8_plans 182 = .ok (.if_icmp .gt 18, 3) := by decide +kernel
theorem dX8_plans_185 : decode cX8_plans 185 = .ok (.aload_n 0, 1) := by decide +kernel
theorem dX8_plans_186 : decode cX8_plans 186 = .ok (.aload_n 0, 1) := by decide +kernel
theorem dX8_plans_187 : decode cX8_plans 187 = .ok (.getfield 109, 3) := by decide +kernel
theorem dX8_plans_190 : decode cX8_plans 190 = .ok (.iload_n 3, 1) := by decide +kernel
theorem dX8_plans_191 : decode cX8_plans 191 = .ok (.isub, 1) := by decide +kernel
theorem dX8_plans_192 : decode cX8_plans 192 = .ok (.iconst 1, 1) := by decide +kernel
theorem dX8_plans_193 : decode cX8_plans 193 = .ok (.iadd, 1) := by decide +kernel
theorem dX8_plans_194 : decode cX8_plans 194 = .ok (.invokevirtual 122, 3) := by decide +kernel
theorem dX8_plans_197 : decode cX8_plans 197 = .ok (.goto 4, 3) := by decide +kernel
theorem dX8_plans_200 : decode cX8_plans 200 = .ok (.iconst (-1), 1) := by decide +kernel
theorem dX8_plans_201 : decode cX8_plans 201 = .ok (.istore 4, 2) := by decide +kernel
theorem dX8_plans_203 : decode cX8_plans 203 = .ok (.goto (-133), 3) := by decide +kernel
theorem dX8_plans_206 : decode cX8_plans 206 = .ok (.aload_n 0, 1) := by decide +kernel
theorem dX8_plans_207 : decode cX8_plans 207 = .ok (.getfield 109, 3) := by decide +kernel
theorem dX8_plans_210 : decode cX8_plans 210 = .ok (.iconst 1, 1) := by decide +kernel
theorem dX8_plans_211 : decode cX8_plans 211 = .ok (.iadd, 1) := by decide +kernel
theorem dX8_plans_212 : decode cX8_plans 212 = .ok (.istore_n 2, 1) := by decide +kernel
theorem dX8_plans_213 : decode cX8_plans 213 = .ok (.goto (-171), 3) := by decide +kernel
theorem dX8_plans_216 : decode cX8_plans 216 = .ok (.return_, 1) := by decide +kernel
theorem dX8_type_0 : decode cX8_type 0 = .ok (.iload_n 1, 1) := by decide +kernel
theorem dX8_type_1 : decode cX8_type 1 = .ok (.i2l, 1) := by decide +kernel
theorem dX8_type_2 : decode cX8_type 2 = .ok (.lconst 0, 1) := by decide +kernel
theorem dX8_type_3 : decode cX8_type 3 = .ok (.ldc2_w 125, 3) := by decide +kernel
theorem dX8_type_6 : decode cX8_type 6 = .ok (.invokestatic 58, 3) := by decide +kernel
theorem dX8_type_9 : decode cX8_type 9 = .ok (.ifCond .ne 6, 3) := by decide +kernel
theorem dX8_type_12 : decode cX8_type 12 = .ok (.bipush (-3), 2) := by decide +kernel
theorem dX8_type_14 : decode cX8_type 14 = .ok (.ireturn, 1) := by decide +kernel
theorem dX8_type_15 : decode cX8_type 15 = .ok (.aload_n 0, 1) := by decide +kernel
theorem dX8_type_16 : decode cX8_type 16 = .ok (.getfield 127, 3) := by decide +kernel
theorem dX8_type_19 : decode cX8_type 19 = .ok (.sipush 200, 3) := by decide +kernel
theorem dX8_type_22 : decode cX8_type 22 = .ok (.if_icmp .ne 6, 3) := by decide +kernel
theorem dX8_type_25 : decode cX8_type 25 = .ok (.bipush (-5), 2) := by decide +kernel
theorem dX8_type_27 : decode cX8_type 27 = .ok (.ireturn, 1) := by decide +kernel
theorem dX8_type_28 : decode cX8_type 28 = .ok (.aload_n 0, 1) := by decide +kernel
theorem dX8_type_29 : decode cX8_type 29 = .ok (.getfield 19, 3) := by decide +kernel
theorem dX8_type_32 : decode cX8_type 32 = .ok (.aload_n 0, 1) := by decide +kernel
theorem dX8_type_33 : decode cX8_type 33 = .ok (.getfield 127, 3) := by decide +kernel
theorem dX8_type_36 : decode cX8_type 36 = .ok (.iload_n 1, 1) := by decide +kernel
theorem dX8_type_37 : decode cX8_type 37 = .ok (.iastore, 1) := by decide +kernel
theorem dX8_type_38 : decode cX8_type 38 = .ok (.aload_n 0, 1) := by decide +kernel
theorem dX8_type_39 : decode cX8_type 39 = .ok (.dup, 1) := by decide +kernel
theorem dX8_type_40 : decode cX8_type 40 = .ok (.getfield 127, 3) := by decide +kernel
theorem dX8_type_43 : decode cX8_type 43 = .ok (.iconst 1, 1) := by decide +kernel
theorem dX8_type_44 : decode cX8_type 44 = .ok (.iadd, 1) := by decide +kernel
theorem dX8_type_45 : decode cX8_type 45 = .ok (.putfield 127, 3) := by decide +kernel
theorem dX8_type_48 : decode cX8_type 48 = .ok (.aload_n 0, 1) := by decide +kernel
theorem dX8_type_49 : decode cX8_type 49 = .ok (.getfield 127, 3) := by decide +kernel
theorem dX8_type_52 : decode cX8_type 52 = .ok (.ireturn, 1) := by decide +kernel
theorem dX8_erase_0 : decode cX8_erase 0 = .ok (.aload_n 0, 1) := by decide +kernel
theorem dX8_erase_1 : decode cX8_erase 1 = .ok (.getfield 127, 3) := by decide +kernel
theorem dX8_erase_4 : decode cX8_erase 4 = .ok (.istore_n 1, 1) := by decide +kernel
theorem dX8_erase_5 : decode cX8_erase 5 = .ok (.aload_n 0, 1) := by decide +kernel
theorem dX8_erase_6 : decode cX8_erase 6 = .ok (.iconst 0, 1) := by decide +kernel
theorem dX8_erase_7 : decode cX8_erase 7 = .ok (.putfield 127, 3) := by decide +kernel
theorem dX8_erase_10 : decode cX8_erase 10 = .ok (.iload_n 1, 1) := by decide +kernel
theorem dX8_erase_11 : decode cX8_erase 11 = .ok (.ireturn, 1) := by decide +kernel
theorem dX8_isSmall_0 : decode cX8_isSmall 0 = .ok (.iload_n 0, 1) := by decide +kernel
theorem dX8_isSmall_1 : decode cX8_isSmall 1 = .ok (.i2l, 1) := by decide +kernel
theorem dX8_isSmall_2 : decode cX8_isSmall 2 = .ok (.ldc2_w 130, 3) := by decide +kernel
theorem dX8_isSmall_5 : decode cX8_isSmall 5 = .ok (.ldc2_w 132, 3) := by decide +kernel
theorem dX8_isSmall_8 : decode cX8_isSmall 8 = .ok (.invokestatic 58, 3) := by decide +kernel
theorem dX8_isSmall_11 : decode cX8_isSmall 11 = .ok (.ireturn, 1) := by decide +kernel
theorem dX8_isDigit_0 : decode cX8_isDigit 0 = .ok (.iload_n 0, 1) := by decide +kernel
theorem dX8_isDigit_1 : decode cX8_isDigit 1 = .ok (.i2l, 1) := by decide +kernel
theorem dX8_isDigit_2 : decode cX8_isDigit 2 = .ok (.ldc2_w 134, 3) := by decide +kernel
theorem dX8_isDigit_5 : decode cX8_isDigit 5 = .ok (.ldc2_w 136, 3) := by decide +kernel
theorem dX8_isDigit_8 : decode cX8_isDigit 8 = .ok (.invokestatic 58, 3) := by decide +kernel
theorem dX8_isDigit_11 : decode cX8_isDigit 11 = .ok (.ireturn, 1) := by decide +kernel
theorem dX8_nextToken_0 : decode cX8_nextToken 0 = .ok (.aload_n 0, 1) := by decide +kernel
theorem dX8_nextToken_1 : decode cX8_nextToken 1 = .ok (.aload_n 0, 1) := by decide +kernel
theorem dX8_nextToken_2 : decode cX8_nextToken 2 = .ok (.getfield 138, 3) := by decide +kernel
theorem dX8_nextToken_5 : decode cX8_nextToken 5 = .ok (.putfield 141, 3) := by decide +kernel
theorem dX8_nextToken_8 : decode cX8_nextToken 8 = .ok (.aload_n 0, 1) := by decide +kernel
theorem dX8_nextToken_9 : decode cX8_nextToken 9 = .ok (.getfield 141, 3) := by decide +kernel
theorem dX8_nextToken_12 : decode cX8_nextToken 12 = .ok (.aload_n 0, 1) := by decide +kernel
theorem dX8_nextToken_13 : decode cX8_nextToken 13 = .ok (.getfield 127, 3) := by decide +kernel
theorem dX8_nextToken_16 : decode cX8_nextToken 16 = .ok (.if_icmp .ge 30, 3) := by decide +kernel
theorem dX8_nextToken_19 : decode cX8_nextToken 19 = .ok (.aload_n 0, 1) := by decide +kernel
theorem dX8_nextToken_20 : decode cX8_nextToken 20 = .ok (.getfield 19, 3) := by decide +kernel
theorem dX8_nextToken_23 : decode cX8_nextToken 23 = .ok (.aload_n 0, 1) := by decide +kernel
theorem dX8_nextToken_24 : decode cX8_nextToken 24 = .ok (.getfield 141, 3) := by decide +kernel
theorem dX8_nextToken_27 : decode cX8_nextToken 27 = .ok (.iaload, 1) := by decide +kernel
theorem dX8_nextToken_28 : decode cX8_nextToken 28 = .ok (.bipush 32, 2) := by decide +kernel
theorem dX8_nextToken_30 : decode cX8_nextToken 30 = .ok (.if_icmp .ne 16, 3) := by decide +kernel
theorem dX8_nextToken_33 : decode cX8_nextToken 33 = .ok (.aload_n 0, 1) := by decide +kernel
theorem dX8_nextToken_34 : decode cX8_nextToken 34 = .ok (.dup, 1) := by decide +kernel
theorem dX8_nextToken_35 : decode cX8_nextToken 35 = .ok (.getfield 141, 3) := by decide +kernel
theorem dX8_nextToken_38 : decode cX8_nextToken 38 = .ok (.iconst 1, 1) := by decide +kernel
theorem dX8_nextToken_39 : decode cX8_nextToken 39 = .ok (.iadd, 1) := by decide +kernel
theorem dX8_nextToken_40 : decode cX8_nextToken 40 = .ok (.putfield 141, 3) := by decide +kernel
theorem dX8_nextToken_43 : decode cX8_nextToken 43 = .ok (.goto (-35), 3) := by decide +kernel
theorem dX8_nextToken_46 : decode cX8_nextToken 46 = .ok (.aload_n 0, 1) := by decide +kernel
theorem dX8_nextToken_47 : decode cX8_nextToken 47 = .ok (.aload_n 0, 1) := by decide +kernel
theorem dX8_nextToken_48 : decode cX8_nextToken 48 = .ok (.getfield 141, 3) := by decide +kernel
theorem dX8_nextToken_51 : decode cX8_nextToken 51 = .ok (.aload_n 0, 1) := by decide +kernel
theorem dX8_nextToken_52 : decode cX8_nextToken 52 = .ok (.getfield 127, 3) := by decide +kernel
theorem dX8_nextToken_55 : decode cX8_nextToken 55 = .ok (.if_icmp .ge 12, 3) := by decide +kernel
theorem dX8_nextToken_58 : decode cX8_nextToken 58 = .ok (.aload_n 0, 1) := by decide +kernel
theorem dX8_nextToken_59 : decode cX8_nextToken 59 = .ok (.getfield 141, 3) := by decide +kernel
theorem dX8_nextToken_62 : decode cX8_nextToken 62 = .ok (.iconst 1, 1) := by decide +kernel
theorem dX8_nextToken_63 : decode cX8_nextToken 63 = .ok (.iadd, 1) := by decide +kernel
theorem dX8_nextToken_64 : decode cX8_nextToken 64 = .ok (.goto 7, 3) := by decide +kernel
theorem dX8_nextToken_67 : decode cX8_nextToken 67 = .ok (.aload_n 0, 1) := by decide +kernel
theorem dX8_nextToken_68 : decode cX8_nextToken 68 = .ok (.getfield 141, 3) := by decide +kernel
theorem dX8_nextToken_71 : decode cX8_nextToken 71 = .ok (.putfield 138, 3) := by decide +kernel
theorem dX8_nextToken_74 : decode cX8_nextToken 74 = .ok (.aload_n 0, 1) := by decide +kernel
theorem dX8_nextToken_75 : decode cX8_nextToken 75 = .ok (.getfield 141, 3) := by decide +kernel
theorem dX8_nextToken_78 : decode cX8_nextToken 78 = .ok (.aload_n 0, 1) := by decide +kernel
theorem dX8_nextToken_79 : decode cX8_nextToken 79 = .ok (.getfield 127, 3) := by decide +kernel
theorem dX8_nextToken_82 : decode cX8_nextToken 82 = .ok (.if_icmp .ge 57, 3) := by decide +kernel
theorem dX8_nextToken_85 : decode cX8_nextToken 85 = .ok (.aload_n 0, 1) := by decide +kernel
theorem dX8_nextToken_86 : decode cX8_nextToken 86 = .ok (.getfield 19, 3) := by decide +kernel
theorem dX8_nextToken_89 : decode cX8_nextToken 89 = .ok (.aload_n 0, 1) := by decide +kernel
theorem dX8_nextToken_90 : decode cX8_nextToken 90 = .ok (.getfield 141, 3) := by decide +kernel
theorem dX8_nextToken_93 : decode cX8_nextToken 93 = .ok (.iaload, 1) := by decide +kernel
theorem dX8_nextToken_94 : decode cX8_nextToken 94 = .ok (.invokestatic 144, 3) := by decide +kernel
theorem dX8_nextToken_97 : decode cX8_nextToken 97 = .ok (.ifCond .eq 42, 3) := by decide +kernel
theorem dX8_nextToken_100 : decode cX8_nextToken 100 = .ok (.aload_n 0, 1) := by decide +kernel
theorem dX8_nextToken_101 : decode cX8_nextToken 101 = .ok (.getfield 138, 3) := by decide +kernel
theorem dX8_nextToken_104 : decode cX8_nextToken 104 = .ok (.aload_n 0, 1) := by decide +kernel
theorem dX8_nextToken_105 : decode cX8_nextToken 105 = .ok (.getfield 127, 3) := by decide +kernel
theorem dX8_nextToken_108 : decode cX8_nextToken 108 = .ok (.if_icmp .ge 96, 3) := by decide +kernel
theorem dX8_nextToken_111 : decode cX8_nextToken 111 = .ok (.aload_n 0, 1) := by decide +kernel
theorem dX8_nextToken_112 : decode cX8_nextToken 112 = .ok (.getfield 19, 3) := by decide +kernel
theorem dX8_nextToken_115 : decode cX8_nextToken 115 = .ok (.aload_n 0, 1) := by decide +kernel
theorem dX8_nextToken_116 : decode cX8_nextToken 116 = .ok (.getfield 138, 3) := by decide +kernel
theorem dX8_nextToken_119 : decode cX8_nextToken 119 = .ok (.iaload, 1) := by decide +kernel
theorem dX8_nextToken_120 : decode cX8_nextToken 120 = .ok (.invokestatic 144, 3) := by decide +kernel
theorem dX8_nextToken_123 : decode cX8_nextToken 123 = .ok (.ifCond .eq 81, 3) := by decide +kernel
theorem dX8_nextToken_126 : decode cX8_nextToken 126 = .ok (.aload_n 0, 1) := by decide +kernel
theorem dX8_nextToken_127 : decode cX8_nextToken 127 = .ok (.dup, 1) := by decide +kernel
theorem dX8_nextToken_128 : decode cX8_nextToken 128 = .ok (.getfield 138, 3) := by decide +kernel
theorem dX8_nextToken_131 : decode cX8_nextToken 131 = .ok (.iconst 1, 1) := by decide +kernel
theorem dX8_nextToken_132 : decode cX8_nextToken 132 = .ok (.iadd, 1) := by decide +kernel
theorem dX8_nextToken_133 : decode cX8_nextToken 133 = .ok (.putfield 138, 3) := by decide +kernel
theorem dX8_nextToken_136 : decode cX8_nextToken 136 = .ok (.goto (-36), 3) := by decide +kernel
theorem dX8_nextToken_139 : decode cX8_nextToken 139 = .ok (.aload_n 0, 1) := by decide +kernel
theorem dX8_nextToken_140 : decode cX8_nextToken 140 = .ok (.getfield 141, 3) := by decide +kernel
theorem dX8_nextToken_143 : decode cX8_nextToken 143 = .ok (.aload_n 0, 1) := by decide +kernel
theorem dX8_nextToken_144 : decode cX8_nextToken 144 = .ok (.getfield 127, 3) := by decide +kernel
theorem dX8_nextToken_147 : decode cX8_nextToken 147 = .ok (.if_icmp .ge 57, 3) := by decide +kernel
theorem dX8_nextToken_150 : decode cX8_nextToken 150 = .ok (.aload_n 0, 1) := by decide +kernel
theorem dX8_nextToken_151 : decode cX8_nextToken 151 = .ok (.getfield 19, 3) := by decide +kernel
theorem dX8_nextToken_154 : decode cX8_nextToken 154 = .ok (.aload_n 0, 1) := by decide +kernel
theorem dX8_nextToken_155 : decode cX8_nextToken 155 = .ok (.getfield 141, 3) := by decide +kernel
theorem dX8_nextToken_158 : decode cX8_nextToken 158 = .ok (.iaload, 1) := by decide +kernel
theorem dX8_nextToken_159 : decode cX8_nextToken 159 = .ok (.invokestatic 148, 3) := by decide +kernel
theorem dX8_nextToken_162 : decode cX8_nextToken 162 = .ok (.ifCond .eq 42, 3) := by decide +kernel
theorem dX8_nextToken_165 : decode cX8_nextToken 165 = .ok (.aload_n 0, 1) := by decide +kernel
theorem dX8_nextToken_166 : decode cX8_nextToken 166 = .ok (.getfield 138, 3) := by decide +kernel
theorem dX8_nextToken_169 : decode cX8_nextToken 169 = .ok (.aload_n 0, 1) := by decide +kernel
theorem dX8_nextToken_170 : decode cX8_nextToken 170 = .ok (.getfield 127, 3) := by decide +kernel
theorem dX8_nextToken_173 : decode cX8_nextToken 173 = .ok (.if_icmp .ge 31, 3) := by decide +kernel
theorem dX8_nextToken_176 : decode cX8_nextToken 176 = .ok (.aload_n 0, 1) := by decide +kernel
theorem dX8_nextToken_177 : decode cX8_nextToken 177 = .ok (.getfield 19, 3) := by decide +kernel
theorem dX8_nextToken_180 : decode cX8_nextToken 180 = .ok (.aload_n 0, 1) := by decide +kernel
theorem dX8_nextToken_181 : decode cX8_nextToken 181 = .ok (.getfield 138, 3) := by decide +kernel
theorem dX8_nextToken_184 : decode cX8_nextToken 184 = .ok (.iaload, 1) := by decide +kernel
theorem dX8_nextToken_185 : decode cX8_nextToken 185 = .ok (.invokestatic 148, 3) := by decide +kernel
theorem dX8_nextToken_188 : decode cX8_nextToken 188 = .ok (.ifCond .eq 16, 3) := by decide +kernel
theorem dX8_nextToken_191 : decode cX8_nextToken 191 = .ok (.aload_n 0, 1) := by decide +kernel
theorem dX8_nextToken_192 : decode cX8_nextToken 192 = .ok (.dup, 1) := by decide +kernel
theorem dX8_nextToken_193 : decode cX8_nextToken 193 = .ok (.getfield 138, 3) := by decide +kernel
theorem dX8_nextToken_196 : decode cX8_nextToken 196 = .ok (.iconst 1, 1) := by decide +kernel
theorem dX8_nextToken_197 : decode cX8_nextToken 197 = .ok (.iadd, 1) := by decide +kernel
theorem dX8_nextToken_198 : decode cX8_nextToken 198 = .ok (.putfield 138, 3) := by decide +kernel
theorem dX8_nextToken_201 : decode cX8_nextToken 201 = .ok (.goto (-36), 3) := by decide +kernel
theorem dX8_nextToken_204 : decode cX8_nextToken 204 = .ok (.return_, 1) := by decide +kernel
theorem dX8_wordHere_0 : decode cX8_wordHere 0 = .ok (.iconst 0, 1) := by decide +kernel
theorem dX8_wordHere_1 : decode cX8_wordHere 1 = .ok (.istore_n 1, 1) := by decide +kernel
theorem dX8_wordHere_2 : decode cX8_wordHere 2 = .ok (.iload_n 1, 1) := by decide +kernel
theorem dX8_wordHere_3 : decode cX8_wordHere 3 = .ok (.bipush 8, 2) := by decide +kernel
theorem dX8_wordHere_5 : decode cX8_wordHere 5 = .ok (.if_icmp .ge 112, 3) := by decide +kernel
theorem dX8_wordHere_8 : decode cX8_wordHere 8 = .ok (.aload_n 0, 1) := by decide +kernel
theorem dX8_wordHere_9 : decode cX8_wordHere 9 = .ok (.getfield 138, 3) := by decide +kernel
theorem dX8_wordHere_12 : decode cX8_wordHere 12 = .ok (.aload_n 0, 1) := by decide +kernel
theorem dX8_wordHere_13 : decode cX8_wordHere 13 = .ok (.getfield 141, 3) := by decide +kernel
theorem dX8_wordHere_16 : decode cX8_wordHere 16 = .ok (.if_icmp .le 21, 3) := by decide +kernel
theorem dX8_wordHere_19 : decode cX8_wordHere 19 = .ok (.aload_n 0, 1) := by decide +kernel
theorem dX8_wordHere_20 : decode cX8_wordHere 20 = .ok (.getfield 138, 3) := by decide +kernel
theorem dX8_wordHere_23 : decode cX8_wordHere 23 = .ok (.aload_n 0, 1) := by decide +kernel
theorem dX8_wordHere_24 : decode cX8_wordHere 24 = .ok (.getfield 141, 3) := by decide +kernel
theorem dX8_wordHere_27 : decode cX8_wordHere 27 = .ok (.isub, 1) := by decide +kernel
theorem dX8_wordHere_28 : decode cX8_wordHere 28 = .ok (.bipush 7, 2) := by decide +kernel
theorem dX8_wordHere_30 : decode cX8_wordHere 30 = .ok (.if_icmp .ge 7, 3) := by decide +kernel
theorem dX8_wordHere_33 : decode cX8_wordHere 33 = .ok (.iconst 1, 1) := by decide +kernel
theorem dX8_wordHere_34 : decode cX8_wordHere 34 = .ok (.goto 4, 3) := by decide +kernel
theorem dX8_wordHere_37 : decode cX8_wordHere 37 = .ok (.iconst 0, 1) := by decide +kernel
theorem dX8_wordHere_38 : decode cX8_wordHere 38 = .ok (.istore_n 2, 1) := by decide +kernel
theorem dX8_wordHere_39 : decode cX8_wordHere 39 = .ok (.iconst 0, 1) := by decide +kernel
theorem dX8_wordHere_40 : decode cX8_wordHere 40 = .ok (.istore_n 3, 1) := by decide +kernel
theorem dX8_wordHere_41 : decode cX8_wordHere 41 = .ok (.iload_n 3, 1) := by decide +kernel
theorem dX8_wordHere_42 : decode cX8_wordHere 42 = .ok (.bipush 6, 2) := by decide +kernel
theorem dX8_wordHere_44 : decode cX8_wordHere 44 = .ok (.if_icmp .ge 61, 3) := by decide +kernel
theorem dX8_wordHere_47 : decode cX8_wordHere 47 = .ok (.iload_n 2, 1) := by decide +kernel
theorem dX8_wordHere_48 : decode cX8_wordHere 48 = .ok (.ifCond .eq 57, 3) := by decide +kernel
theorem dX8_wordHere_51 : decode cX8_wordHere 51 = .ok (.aload_n 0, 1) := by decide +kernel
theorem dX8_wordHere_52 : decode cX8_wordHere 52 = .ok (.getfield 34, 3) := by decide +kernel
theorem dX8_wordHere_55 : decode cX8_wordHere 55 = .ok (.bipush 6, 2) := by decide +kernel
theorem dX8_wordHere_57 : decode cX8_wordHere 57 = .ok (.iload_n 1, 1) := by decide +kernel
theorem dX8_wordHere_58 : decode cX8_wordHere 58 = .ok (.imul, 1) := by decide +kernel
theorem dX8_wordHere_59 : decode cX8_wordHere 59 = .ok (.iload_n 3, 1) := by decide +kernel
theorem dX8_wordHere_60 : decode cX8_wordHere 60 = .ok (.iadd, 1) := by decide +kernel
theorem dX8_wordHere_61 : decode cX8_wordHere 61 = .ok (.iaload, 1) := by decide +kernel
theorem dX8_wordHere_62 : decode cX8_wordHere 62 = .ok (.aload_n 0, 1) := by decide +kernel
theorem dX8_wordHere_63 : decode cX8_wordHere 63 = .ok (.getfield 141, 3) := by decide +kernel
theorem dX8_wordHere_66 : decode cX8_wordHere 66 = .ok (.iload_n 3, 1) := by decide +kernel
theorem dX8_wordHere_67 : decode cX8_wordHere 67 = .ok (.iadd, 1) := by decide +kernel
theorem dX8_wordHere_68 : decode cX8_wordHere 68 = .ok (.aload_n 0, 1) := by decide +kernel
theorem dX8_wordHere_69 : decode cX8_wordHere 69 = .ok (.getfield 138, 3) := by decide +kernel
theorem dX8_wordHere_72 : decode cX8_wordHere 72 = .ok (.if_icmp .ge 17, 3) := by decide +kernel
theorem dX8_wordHere_75 : decode cX8_wordHere 75 = .ok (.aload_n 0, 1) := by decide +kernel
theorem dX8_wordHere_76 : decode cX8_wordHere 76 = .ok (.getfield 19, 3) := by decide +kernel
theorem dX8_wordHere_79 : decode cX8_wordHere 79 = .ok (.aload_n 0, 1) := by decide +kernel
theorem dX8_wordHere_80 : decode cX8_wordHere 80 = .ok (.getfield 141, 3) := by decide +kernel
theorem dX8_wordHere_83 : decode cX8_wordHere 83 = .ok (.iload_n 3, 1) := by decide +kernel
theorem dX8_wordHere_84 : decode cX8_wordHere 84 = .ok (.iadd, 1) := by decide +kernel
theorem dX8_wordHere_85 : decode cX8_wordHere 85 = .ok (.iaload, 1) := by decide +kernel
theorem dX8_wordHere_86 : decode cX8_wordHere 86 = .ok (.goto 4, 3) := by decide +kernel
theorem dX8_wordHere_89 : decode cX8_wordHere 89 = .ok (.iconst 0, 1) := by decide +kernel
theorem dX8_wordHere_90 : decode cX8_wordHere 90 = .ok (.if_icmp .ne 7, 3) := by decide +kernel
theorem dX8_wordHere_93 : decode cX8_wordHere 93 = .ok (.iconst 1, 1) := by decide +kernel
theorem dX8_wordHere_94 : decode cX8_wordHere 94 = .ok (.goto 4, 3) := by decide +kernel
theorem dX8_wordHere_97 : decode cX8_wordHere 97 = .ok (.iconst 0, 1) := by decide +kernel
theorem dX8_wordHere_98 : decode cX8_wordHere 98 = .ok (.istore_n 2, 1) := by decide +kernel
theorem dX8_wordHere_99 : decode cX8_wordHere 99 = .ok (.iinc 3 1, 3) := by decide +kernel
theorem dX8_wordHere_102 : decode cX8_wordHere 102 = .ok (.goto (-61), 3) := by decide +kernel
theorem dX8_wordHere_105 : decode cX8_wordHere 105 = .ok (.iload_n 2, 1) := by decide +kernel
theorem dX8_wordHere_106 : decode cX8_wordHere 106 = .ok (.ifCond .eq 5, 3) := by decide +kernel
theorem dX8_wordHere_109 : decode cX8_wordHere 109 = .ok (.iload_n 1, 1) := by decide +kernel
theorem dX8_wordHere_110 : decode cX8_wordHere 110 = .ok (.ireturn, 1) := by decide +kernel
theorem dX8_wordHere_111 : decode cX8_wordHere 111 = .ok (.iinc 1 1, 3) := by decide +kernel
theorem dX8_wordHere_114 : decode cX8_wordHere 114 = .ok (.goto (-112), 3) := by decide +kernel
theorem dX8_wordHere_117 : decode cX8_wordHere 117 = .ok (.iconst (-1), 1) := by decide +kernel
theorem dX8_wordHere_118 : decode cX8_wordHere 118 = .ok (.ireturn, 1) := by decide +kernel
theorem dX8_number_0 : decode cX8_number 0 = .ok (.aload_n 0, 1) := by decide +kernel
theorem dX8_number_1 : decode cX8_number 1 = .ok (.getfield 141, 3) := by decide +kernel
theorem dX8_number_4 : decode cX8_number 4 = .ok (.aload_n 0, 1) := by decide +kernel
theorem dX8_number_5 : decode cX8_number 5 = .ok (.getfield 127, 3) := by decide +kernel
theorem dX8_number_8 : decode cX8_number 8 = .ok (.if_icmp .eq 32, 3) := by decide +kernel
theorem dX8_number_11 : decode cX8_number 11 = .ok (.aload_n 0, 1) := by decide +kernel
theorem dX8_number_12 : decode cX8_number 12 = .ok (.getfield 19, 3) := by decide +kernel
theorem dX8_number_15 : decode cX8_number 15 = .ok (.aload_n 0, 1) := by decide +kernel
theorem dX8_number_16 : decode cX8_number 16 = .ok (.getfield 141, 3) := by decide +kernel
theorem dX8_number_19 : decode cX8_number 19 = .ok (.iaload, 1) := by decide +kernel
theorem dX8_number_20 : decode cX8_number 20 = .ok (.invokestatic 148, 3) := by decide +kernel
theorem dX8_number_23 : decode cX8_number 23 = .ok (.ifCond .eq 17, 3) := by decide +kernel
theorem dX8_number_26 : decode cX8_number 26 = .ok (.aload_n 0, 1) := by decide +kernel
theorem dX8_number_27 : decode cX8_number 27 = .ok (.getfield 138, 3) := by decide +kernel
theorem dX8_number_30 : decode cX8_number 30 = .ok (.aload_n 0, 1) := by decide +kernel
theorem dX8_number_31 : decode cX8_number 31 = .ok (.getfield 141, 3) := by decide +kernel
theorem dX8_number_34 : decode cX8_number 34 = .ok (.isub, 1) := by decide +kernel
theorem dX8_number_35 : decode cX8_number 35 = .ok (.bipush 10, 2) := by decide +kernel
theorem dX8_number_37 : decode cX8_number 37 = .ok (.if_icmp .le 5, 3) := by decide +kernel
theorem dX8_number_40 : decode cX8_number 40 = .ok (.iconst 0, 1) := by decide +kernel
theorem dX8_number_41 : decode cX8_number 41 = .ok (.ireturn, 1) := by decide +kernel
theorem dX8_number_42 : decode cX8_number 42 = .ok (.lconst 0, 1) := by decide +kernel
theorem dX8_number_43 : decode cX8_number 43 = .ok (.lstore_n 3, 1) := by decide +kernel
theorem dX8_number_44 : decode cX8_number 44 = .ok (.aload_n 0, 1) := by decide +kernel
theorem dX8_number_45 : decode cX8_number 45 = .ok (.getfield 141, 3) := by decide +kernel
theorem dX8_number_48 : decode cX8_number 48 = .ok (.istore 5, 2) := by decide +kernel
theorem dX8_number_50 : decode cX8_number 50 = .ok (.iload 5, 2) := by decide +kernel
theorem dX8_number_52 : decode cX8_number 52 = .ok (.aload_n 0, 1) := by decide +kernel
theorem dX8_number_53 : decode cX8_number 53 = .ok (.getfield 138, 3) := by decide +kernel
theorem dX8_number_56 : decode cX8_number 56 = .ok (.if_icmp .ge 28, 3) := by decide +kernel
theorem dX8_number_59 : decode cX8_number 59 = .ok (.ldc2_w 151, 3) := by decide +kernel
theorem dX8_number_62 : decode cX8_number 62 = .ok (.lload_n 3, 1) := by decide +kernel
theorem dX8_number_63 : decode cX8_number 63 = .ok (.lmul, 1) := by decide +kernel
theorem dX8_number_64 : decode cX8_number 64 = .ok (.aload_n 0, 1) := by decide +kernel
theorem dX8_number_65 : decode cX8_number 65 = .ok (.getfield 19, 3) := by decide +kernel
theorem dX8_number_68 : decode cX8_number 68 = .ok (.iload 5, 2) := by decide +kernel
theorem dX8_number_70 : decode cX8_number 70 = .ok (.iaload, 1) := by decide +kernel
theorem dX8_number_71 : decode cX8_number 71 = .ok (.i2l, 1) := by decide +kernel
theorem dX8_number_72 : decode cX8_number 72 = .ok (.ladd, 1) := by decide +kernel
theorem dX8_number_73 : decode cX8_number 73 = .ok (.ldc2_w 134, 3) := by decide +kernel
theorem dX8_number_76 : decode cX8_number 76 = .ok (.lsub, 1) := by decide +kernel
theorem dX8_number_77 : decode cX8_number 77 = .ok (.lstore_n 3, 1) := by decide +kernel
theorem dX8_number_78 : decode cX8_number 78 = .ok (.iinc 5 1, 3) := by decide +kernel
theorem dX8_number_81 : decode cX8_number 81 = .ok (.goto (-31), 3) := by decide +kernel
theorem dX8_number_84 : decode cX8_number 84 = .ok (.iload_n 2, 1) := by decide +kernel
theorem dX8_number_85 : decode cX8_number 85 = .ok (.iconst 3, 1) := by decide +kernel
theorem dX8_number_86 : decode cX8_number 86 = .ok (.if_icmp .eq 9, 3) := by decide +kernel
theorem dX8_number_89 : decode cX8_number 89 = .ok (.iload_n 2, 1) := by decide +kernel
theorem dX8_number_90 : decode cX8_number 90 = .ok (.bipush 6, 2) := by decide +kernel
theorem dX8_number_92 : decode cX8_number 92 = .ok (.if_icmp .ne 7, 3) := by decide +kernel
theorem dX8_number_95 : decode cX8_number 95 = .ok (.lconst 1, 1) := by decide +kernel
theorem dX8_number_96 : decode cX8_number 96 = .ok (.goto 21, 3) := by decide +kernel
theorem dX8_number_99 : decode cX8_number 99 = .ok (.iload_n 2, 1) := by decide +kernel
theorem dX8_number_100 : decode cX8_number 100 = .ok (.iconst 4, 1) := by decide +kernel
theorem dX8_number_101 : decode cX8_number 101 = .ok (.if_icmp .ne 15, 3) := by decide +kernel
theorem dX8_number_104 : decode cX8_number 104 = .ok (.aload_n 0, 1) := by decide +kernel
theorem dX8_number_105 : decode cX8_number 105 = .ok (.getfield 31, 3) := by decide +kernel
theorem dX8_number_108 : decode cX8_number 108 = .ok (.iload_n 1, 1) := by decide +kernel
theorem dX8_number_109 : decode cX8_number 109 = .ok (.iconst 1, 1) := by decide +kernel
theorem dX8_number_110 : decode cX8_number 110 = .ok (.isub, 1) := by decide +kernel
theorem dX8_number_111 : decode cX8_number 111 = .ok (.iaload, 1) := by decide +kernel
theorem dX8_number_112 : decode cX8_number 112 = .ok (.i2l, 1) := by decide +kernel
theorem dX8_number_113 : decode cX8_number 113 = .ok (.goto 4, 3) := by decide +kernel
theorem dX8_number_116 : decode cX8_number 116 = .ok (.lconst 0, 1) := by decide +kernel
theorem dX8_number_117 : decode cX8_number 117 = .ok (.lstore 5, 2) := by decide +kernel
theorem dX8_number_119 : decode cX8_number 119 = .ok (.iload_n 2, 1) := by decide +kernel
theorem dX8_number_120 : decode cX8_number 120 = .ok (.iconst 1, 1) := by decide +kernel
theorem dX8_number_121 : decode cX8_number 121 = .ok (.if_icmp .ne 9, 3) := by decide +kernel
theorem dX8_number_124 : decode cX8_number 124 = .ok (.ldc2_w 153, 3) := by decide +kernel
theorem dX8_number_127 : decode cX8_number 127 = .ok (.goto 29, 3) := by decide +kernel
theorem dX8_number_130 : decode cX8_number 130 = .ok (.iload_n 2, 1) := by decide +kernel
theorem dX8_number_131 : decode cX8_number 131 = .ok (.iconst 2, 1) := by decide +kernel
theorem dX8_number_132 : decode cX8_number 132 = .ok (.if_icmp .ne 9, 3) := by decide +kernel
theorem dX8_number_135 : decode cX8_number 135 = .ok (.ldc2_w 62, 3) := by decide +kernel
theorem dX8_number_138 : decode cX8_number 138 = .ok (.goto 18, 3) := by decide +kernel
theorem dX8_number_141 : decode cX8_number 141 = .ok (.iload_n 2, 1) := by decide +kernel
theorem dX8_number_142 : decode cX8_number 142 = .ok (.bipush 6, 2) := by decide +kernel
theorem dX8_number_144 : decode cX8_number 144 = .ok (.if_icmp .ne 9, 3) := by decide +kernel
theorem dX8_number_147 : decode cX8_number 147 = .ok (.ldc2_w 155, 3) := by decide +kernel
theorem dX8_number_150 : decode cX8_number 150 = .ok (.goto 6, 3) := by decide +kernel
theorem dX8_number_153 : decode cX8_number 153 = .ok (.ldc2_w 56, 3) := by decide +kernel
theorem dX8_number_156 : decode cX8_number 156 = .ok (.lstore 7, 2) := by decide +kernel
theorem dX8_number_158 : decode cX8_number 158 = .ok (.lload_n 3, 1) := by decide +kernel
theorem dX8_number_159 : decode cX8_number 159 = .ok (.lload 5, 2) := by decide +kernel
theorem dX8_number_161 : decode cX8_number 161 = .ok (.lload 7, 2) := by decide +kernel
theorem dX8_number_163 : decode cX8_number 163 = .ok (.invokestatic 58, 3) := by decide +kernel
theorem dX8_number_166 : decode cX8_number 166 = .ok (.ifCond .ne 5, 3) := by decide +kernel
theorem dX8_number_169 : decode cX8_number 169 = .ok (.iconst 0, 1) := by decide +kernel
theorem dX8_number_170 : decode cX8_number 170 = .ok (.ireturn, 1) := by decide +kernel
theorem dX8_number_171 : decode cX8_number 171 = .ok (.aload_n 0, 1) := by decide +kernel
theorem dX8_number_172 : decode cX8_number 172 = .ok (.getfield 31, 3) := by decide +kernel
theorem dX8_number_175 : decode cX8_number 175 = .ok (.iload_n 1, 1) := by decide +kernel
theorem dX8_number_176 : decode cX8_number 176 = .ok (.lload_n 3, 1) := by decide +kernel
theorem dX8_number_177 : decode cX8_number 177 = .ok (.l2i, 1) := by decide +kernel
theorem dX8_number_178 : decode cX8_number 178 = .ok (.iastore, 1) := by decide +kernel
theorem dX8_number_179 : decode cX8_number 179 = .ok (.aload_n 0, 1) := by decide +kernel
theorem dX8_number_180 : decode cX8_number 180 = .ok (.invokevirtual 157, 3) := by decide +kernel
theorem dX8_number_183 : decode cX8_number 183 = .ok (.iconst 1, 1) := by decide +kernel
theorem dX8_number_184 : decode cX8_number 184 = .ok (.ireturn, 1) := by decide +kernel
theorem dX8_done_0 : decode cX8_done 0 = .ok (.iload_n 1, 1) := by decide +kernel
theorem dX8_done_1 : decode cX8_done 1 = .ok (.tableswitch 184 0 6 #[43, 50, 75, 95, 114, 139, 159], 43) := by decide +kernel
theorem dX8_done_44 : decode cX8_done 44 = .ok (.aload_n 0, 1) := by decide +kernel
theorem dX8_done_45 : decode cX8_done 45 = .ok (.invokevirtual 160, 3) := by decide +kernel
theorem dX8_done_48 : decode cX8_done 48 = .ok (.goto 152, 3) := by decide +kernel
theorem dX8_done_51 : decode cX8_done 51 = .ok (.aload_n 0, 1) := by decide +kernel
theorem dX8_done_52 : decode cX8_done 52 = .ok (.aload_n 0, 1) := by decide +kernel
theorem dX8_done_53 : decode cX8_done 53 = .ok (.getfield 31, 3) := by decide +kernel
theorem dX8_done_56 : decode cX8_done 56 = .ok (.iconst 0, 1) := by decide +kernel
theorem dX8_done_57 : decode cX8_done 57 = .ok (.iaload, 1) := by decide +kernel
theorem dX8_done_58 : decode cX8_done 58 = .ok (.aload_n 0, 1) := by decide +kernel
theorem dX8_done_59 : decode cX8_done 59 = .ok (.getfield 31, 3) := by decide +kernel
theorem dX8_done_62 : decode cX8_done 62 = .ok (.iconst 1, 1) := by decide +kernel
theorem dX8_done_63 : decode cX8_done 63 = .ok (.iaload, 1) := by decide +kernel
theorem dX8_done_64 : decode cX8_done 64 = .ok (.aload_n 0, 1) := by decide +kernel
theorem dX8_done_65 : decode cX8_done 65 = .ok (.getfield 31, 3) := by decide +kernel
theorem dX8_done_68 : decode cX8_done 68 = .ok (.iconst 2, 1) := by decide +kernel
theorem dX8_done_69 : decode cX8_done 69 = .ok (.iaload, 1) := by decide +kernel
theorem dX8_done_70 : decode cX8_done 70 = .ok (.invokevirtual 163, 3) := by decide +kernel
theorem dX8_done_73 : decode cX8_done 73 = .ok (.goto 127, 3) := by decide +kernel
theorem dX8_done_76 : decode cX8_done 76 = .ok (.aload_n 0, 1) := by decide +kernel
theorem dX8_done_77 : decode cX8_done 77 = .ok (.iconst (-1), 1) := by decide +kernel
theorem dX8_done_78 : decode cX8_done 78 = .ok (.aload_n 0, 1) := by decide +kernel
theorem dX8_done_79 : decode cX8_done 79 = .ok (.getfield 31, 3) := by decide +kernel
theorem dX8_done_82 : decode cX8_done 82 = .ok (.iconst 0, 1) := by decide +kernel
theorem dX8_done_83 : decode cX8_done 83 = .ok (.iaload, 1) := by decide +kernel
theorem dX8_done_84 : decode cX8_done 84 = .ok (.aload_n 0, 1) := by decide +kernel
theorem dX8_done_85 : decode cX8_done 85 = .ok (.getfield 31, 3) := by decide +kernel
theorem dX8_done_88 : decode cX8_done 88 = .ok (.iconst 1, 1) := by decide +kernel
theorem dX8_done_89 : decode cX8_done 89 = .ok (.iaload, 1) := by decide +kernel
theorem dX8_done_90 : decode cX8_done 90 = .ok (.invokevirtual 163, 3) := by decide +kernel
theorem dX8_done_93 : decode cX8_done 93 = .ok (.goto 107, 3) := by decide +kernel
theorem dX8_done_96 : decode cX8_done 96 = .ok (.aload_n 0, 1) := by decide +kernel
theorem dX8_done_97 : decode cX8_done 97 = .ok (.aload_n 0, 1) := by decide +kernel
theorem dX8_done_98 : decode cX8_done 98 = .ok (.getfield 31, 3) := by decide +kernel
theorem dX8_done_101 : decode cX8_done 101 = .ok (.iconst 0, 1) := by decide +kernel
theorem dX8_done_102 : decode cX8_done 102 = .ok (.iaload, 1) := by decide +kernel
theorem dX8_done_103 : decode cX8_done 103 = .ok (.aload_n 0, 1) := by decide +kernel
theorem dX8_done_104 : decode cX8_done 104 = .ok (.getfield 31, 3) := by decide +kernel
theorem dX8_done_107 : decode cX8_done 107 = .ok (.iconst 1, 1) := by decide +kernel
theorem dX8_done_108 : decode cX8_done 108 = .ok (.iaload, 1) := by decide +kernel
theorem dX8_done_109 : decode cX8_done 109 = .ok (.invokevirtual 166, 3) := by decide +kernel
theorem dX8_done_112 : decode cX8_done 112 = .ok (.goto 88, 3) := by decide +kernel
theorem dX8_done_115 : decode cX8_done 115 = .ok (.aload_n 0, 1) := by decide +kernel
theorem dX8_done_116 : decode cX8_done 116 = .ok (.aload_n 0, 1) := by decide +kernel
theorem dX8_done_117 : decode cX8_done 117 = .ok (.getfield 31, 3) := by decide +kernel
theorem dX8_done_120 : decode cX8_done 120 = .ok (.iconst 1, 1) := by decide +kernel
theorem dX8_done_121 : decode cX8_done 121 = .ok (.iaload, 1) := by decide +kernel
theorem dX8_done_122 : decode cX8_done 122 = .ok (.aload_n 0, 1) := by decide +kernel
theorem dX8_done_123 : decode cX8_done 123 = .ok (.getfield 31, 3) := by decide +kernel
theorem dX8_done_126 : decode cX8_done 126 = .ok (.iconst 2, 1) := by decide +kernel
theorem dX8_done_127 : decode cX8_done 127 = .ok (.iaload, 1) := by decide +kernel
theorem dX8_done_128 : decode cX8_done 128 = .ok (.aload_n 0, 1) := by decide +kernel
theorem dX8_done_129 : decode cX8_done 129 = .ok (.getfield 31, 3) := by decide +kernel
theorem dX8_done_132 : decode cX8_done 132 = .ok (.iconst 0, 1) := by decide +kernel
theorem dX8_done_133 : decode cX8_done 133 = .ok (.iaload, 1) := by decide +kernel
theorem dX8_done_134 : decode cX8_done 134 = .ok (.invokevirtual 170, 3) := by decide +kernel
theorem dX8_done_137 : decode cX8_done 137 = .ok (.goto 63, 3) := by decide +kernel
theorem dX8_done_140 : decode cX8_done 140 = .ok (.aload_n 0, 1) := by decide +kernel
theorem dX8_done_141 : decode cX8_done 141 = .ok (.aload_n 0, 1) := by decide +kernel
theorem dX8_done_142 : decode cX8_done 142 = .ok (.getfield 31, 3) := by decide +kernel
theorem dX8_done_145 : decode cX8_done 145 = .ok (.iconst 0, 1) := by decide +kernel
theorem dX8_done_146 : decode cX8_done 146 = .ok (.iaload, 1) := by decide +kernel
theorem dX8_done_147 : decode cX8_done 147 = .ok (.aload_n 0, 1) := by decide +kernel
theorem dX8_done_148 : decode cX8_done 148 = .ok (.getfield 31, 3) := by decide +kernel
theorem dX8_done_151 : decode cX8_done 151 = .ok (.iconst 1, 1) := by decide +kernel
theorem dX8_done_152 : decode cX8_done 152 = .ok (.iaload, 1) := by decide +kernel
theorem dX8_done_153 : decode cX8_done 153 = .ok (.iconst (-1), 1) := by decide +kernel
theorem dX8_done_154 : decode cX8_done 154 = .ok (.invokevirtual 170, 3) := by decide +kernel
theorem dX8_done_157 : decode cX8_done 157 = .ok (.goto 43, 3) := by decide +kernel
theorem dX8_done_160 : decode cX8_done 160 = .ok (.aload_n 0, 1) := by decide +kernel
theorem dX8_done_161 : decode cX8_done 161 = .ok (.aload_n 0, 1) := by decide +kernel
theorem dX8_done_162 : decode cX8_done 162 = .ok (.getfield 31, 3) := by decide +kernel
theorem dX8_done_165 : decode cX8_done 165 = .ok (.iconst 0, 1) := by decide +kernel
theorem dX8_done_166 : decode cX8_done 166 = .ok (.iaload, 1) := by decide +kernel
theorem dX8_done_167 : decode cX8_done 167 = .ok (.aload_n 0, 1) := by decide +kernel
theorem dX8_done_168 : decode cX8_done 168 = .ok (.getfield 31, 3) := by decide +kernel
theorem dX8_done_171 : decode cX8_done 171 = .ok (.iconst 1, 1) := by decide +kernel
theorem dX8_done_172 : decode cX8_done 172 = .ok (.iaload, 1) := by decide +kernel
theorem dX8_done_173 : decode cX8_done 173 = .ok (.aload_n 0, 1) := by decide +kernel
theorem dX8_done_174 : decode cX8_done 174 = .ok (.getfield 31, 3) := by decide +kernel
theorem dX8_done_177 : decode cX8_done 177 = .ok (.iconst 2, 1) := by decide +kernel
theorem dX8_done_178 : decode cX8_done 178 = .ok (.iaload, 1) := by decide +kernel
theorem dX8_done_179 : decode cX8_done 179 = .ok (.invokevirtual 173, 3) := by decide +kernel
theorem dX8_done_182 : decode cX8_done 182 = .ok (.goto 18, 3) := by decide +kernel
theorem dX8_done_185 : decode cX8_done 185 = .ok (.aload_n 0, 1) := by decide +kernel
theorem dX8_done_186 : decode cX8_done 186 = .ok (.getfield 7, 3) := by decide +kernel
theorem dX8_done_189 : decode cX8_done 189 = .ok (.iconst 3, 1) := by decide +kernel
theorem dX8_done_190 : decode cX8_done 190 = .ok (.dup2, 1) := by decide +kernel
theorem dX8_done_191 : decode cX8_done 191 = .ok (.iaload, 1) := by decide +kernel
theorem dX8_done_192 : decode cX8_done 192 = .ok (.aload_n 0, 1) := by decide +kernel
theorem dX8_done_193 : decode cX8_done 193 = .ok (.getfield 31, 3) := by decide +kernel
theorem dX8_done_196 : decode cX8_done 196 = .ok (.iconst 0, 1) := by decide +kernel
theorem dX8_done_197 : decode cX8_done 197 = .ok (.iaload, 1) := by decide +kernel
theorem dX8_done_198 : decode cX8_done 198 = .ok (.iadd, 1) := by decide +kernel
theorem dX8_done_199 : decode cX8_done 199 = .ok (.iastore, 1) := by decide +kernel
theorem dX8_done_200 : decode cX8_done 200 = .ok (.return_, 1) := by decide +kernel
theorem dX8_readsClause_0 : decode cX8_readsClause 0 = .ok (.aload_n 0, 1) := by decide +kernel
theorem dX8_readsClause_1 : decode cX8_readsClause 1 = .ok (.invokevirtual 176, 3) := by decide +kernel
theorem dX8_readsClause_4 : decode cX8_readsClause 4 = .ok (.istore_n 2, 1) := by decide +kernel
theorem dX8_readsClause_5 : decode cX8_readsClause 5 = .ok (.iload_n 2, 1) := by decide +kernel
theorem dX8_readsClause_6 : decode cX8_readsClause 6 = .ok (.iconst (-1), 1) := by decide +kernel
theorem dX8_readsClause_7 : decode cX8_readsClause 7 = .ok (.if_icmp .ne 5, 3) := by decide +kernel
theorem dX8_readsClause_10 : decode cX8_readsClause 10 = .ok (.iconst 0, 1) := by decide +kernel
theorem dX8_readsClause_11 : decode cX8_readsClause 11 = .ok (.ireturn, 1) := by decide +kernel
theorem dX8_readsClause_12 : decode cX8_readsClause 12 = .ok (.aload_n 0, 1) := by decide +kernel
theorem dX8_readsClause_13 : decode cX8_readsClause 13 = .ok (.invokevirtual 157, 3) := by decide +kernel
theorem dX8_readsClause_16 : decode cX8_readsClause 16 = .ok (.iconst 0, 1) := by decide +kernel
theorem dX8_readsClause_17 : decode cX8_readsClause 17 = .ok (.istore_n 3, 1) := by decide +kernel
theorem dX8_readsClause_18 : decode cX8_readsClause 18 = .ok (.iload_n 3, 1) := by decide +kernel
theorem dX8_readsClause_19 : decode cX8_readsClause 19 = .ok (.iconst 3, 1) := by decide +kernel
theorem dX8_readsClause_20 : decode cX8_readsClause 20 = .ok (.if_icmp .ge 42, 3) := by decide +kernel
theorem dX8_readsClause_23 : decode cX8_readsClause 23 = .ok (.aload_n 0, 1) := by decide +kernel
theorem dX8_readsClause_24 : decode cX8_readsClause 24 = .ok (.getfield 37, 3) := by decide +kernel
theorem dX8_readsClause_27 : decode cX8_readsClause 27 = .ok (.iconst 3, 1) := by decide +kernel
theorem dX8_readsClause_28 : decode cX8_readsClause 28 = .ok (.iload_n 2, 1) := by decide +kernel
theorem dX8_readsClause_29 : decode cX8_readsClause 29 = .ok (.imul, 1) := by decide +kernel
theorem dX8_readsClause_30 : decode cX8_readsClause 30 = .ok (.iload_n 3, 1) := by decide +kernel
theorem dX8_readsClause_31 : decode cX8_readsClause 31 = .ok (.iadd, 1) := by decide +kernel
theorem dX8_readsClause_32 : decode cX8_readsClause 32 = .ok (.iaload, 1) := by decide +kernel
theorem dX8_readsClause_33 : decode cX8_readsClause 33 = .ok (.ifCond .le 29, 3) := by decide +kernel
theorem dX8_readsClause_36 : decode cX8_readsClause 36 = .ok (.aload_n 0, 1) := by decide +kernel
theorem dX8_readsClause_37 : decode cX8_readsClause 37 = .ok (.iload_n 3, 1) := by decide +kernel
theorem dX8_readsClause_38 : decode cX8_readsClause 38 = .ok (.aload_n 0, 1) := by decide +kernel
theorem dX8_readsClause_39 : decode cX8_readsClause 39 = .ok (.getfield 37, 3) := by decide +kernel
theorem dX8_readsClause_42 : decode cX8_readsClause 42 = .ok (.iconst 3, 1) := by decide +kernel
theorem dX8_readsClause_43 : decode cX8_readsClause 43 = .ok (.iload_n 2, 1) := by decide +kernel
theorem dX8_readsClause_44 : decode cX8_readsClause 44 = .ok (.imul, 1) := by decide +kernel
theorem dX8_readsClause_45 : decode cX8_readsClause 45 = .ok (.iload_n 3, 1) := by decide +kernel
theorem dX8_readsClause_46 : decode cX8_readsClause 46 = .ok (.iadd, 1) := by decide +kernel
theorem dX8_readsClause_47 : decode cX8_readsClause 47 = .ok (.iaload, 1) := by decide +kernel
theorem dX8_readsClause_48 : decode cX8_readsClause 48 = .ok (.invokevirtual 180, 3) := by decide +kernel
theorem dX8_readsClause_51 : decode cX8_readsClause 51 = .ok (.ifCond .ne 5, 3) := by decide +kernel
theorem dX8_readsClause_54 : decode cX8_readsClause 54 = .ok (.iconst 0, 1) := by decide +kernel
theorem dX8_readsClause_55 : decode cX8_readsClause 55 = .ok (.ireturn, 1) := by decide +kernel
theorem dX8_readsClause_56 : decode cX8_readsClause 56 = .ok (.iinc 3 1, 3) := by decide +kernel
theorem dX8_readsClause_59 : decode cX8_readsClause 59 = .ok (.goto (-41), 3) := by decide +kernel
theorem dX8_readsClause_62 : decode cX8_readsClause 62 = .ok (.iload_n 1, 1) := by decide +kernel
theorem dX8_readsClause_63 : decode cX8_readsClause 63 = .ok (.ifCond .eq 8, 3) := by decide +kernel
theorem dX8_readsClause_66 : decode cX8_readsClause 66 = .ok (.aload_n 0, 1) := by decide +kernel
theorem dX8_readsClause_67 : decode cX8_readsClause 67 = .ok (.iload_n 2, 1) := by decide +kernel
theorem dX8_readsClause_68 : decode cX8_readsClause 68 = .ok (.invokevirtual 183, 3) := by decide +kernel
theorem dX8_readsClause_71 : decode cX8_readsClause 71 = .ok (.iconst 1, 1) := by decide +kernel
theorem dX8_readsClause_72 : decode cX8_readsClause 72 = .ok (.ireturn, 1) := by decide +kernel
theorem dX8_reads_0 : decode cX8_reads 0 = .ok (.aload_n 0, 1) := by decide +kernel
theorem dX8_reads_1 : decode cX8_reads 1 = .ok (.iconst 0, 1) := by decide +kernel
theorem dX8_reads_2 : decode cX8_reads 2 = .ok (.putfield 138, 3) := by decide +kernel
theorem dX8_reads_5 : decode cX8_reads 5 = .ok (.aload_n 0, 1) := by decide +kernel
theorem dX8_reads_6 : decode cX8_reads 6 = .ok (.iconst 1, 1) := by decide +kernel
theorem dX8_reads_7 : decode cX8_reads 7 = .ok (.putfield 187, 3) := by decide +kernel
theorem dX8_reads_10 : decode cX8_reads 10 = .ok (.aload_n 0, 1) := by decide +kernel
theorem dX8_reads_11 : decode cX8_reads 11 = .ok (.invokevirtual 157, 3) := by decide +kernel
theorem dX8_reads_14 : decode cX8_reads 14 = .ok (.aload_n 0, 1) := by decide +kernel
theorem dX8_reads_15 : decode cX8_reads 15 = .ok (.iload_n 1, 1) := by decide +kernel
theorem dX8_reads_16 : decode cX8_reads 16 = .ok (.invokevirtual 190, 3) := by decide +kernel
theorem dX8_reads_19 : decode cX8_reads 19 = .ok (.istore_n 2, 1) := by decide +kernel
theorem dX8_reads_20 : decode cX8_reads 20 = .ok (.iload_n 2, 1) := by decide +kernel
theorem dX8_reads_21 : decode cX8_reads 21 = .ok (.ifCond .eq 70, 3) := by decide +kernel
theorem dX8_reads_24 : decode cX8_reads 24 = .ok (.aload_n 0, 1) := by decide +kernel
theorem dX8_reads_25 : decode cX8_reads 25 = .ok (.getfield 141, 3) := by decide +kernel
theorem dX8_reads_28 : decode cX8_reads 28 = .ok (.aload_n 0, 1) := by decide +kernel
theorem dX8_reads_29 : decode cX8_reads 29 = .ok (.getfield 127, 3) := by decide +kernel
theorem dX8_reads_32 : decode cX8_reads 32 = .ok (.if_icmp .ge 59, 3) := by decide +kernel
theorem dX8_reads_35 : decode cX8_reads 35 = .ok (.aload_n 0, 1) := by decide +kernel
theorem dX8_reads_36 : decode cX8_reads 36 = .ok (.getfield 187, 3) := by decide +kernel
theorem dX8_reads_39 : decode cX8_reads 39 = .ok (.bipush 24, 2) := by decide +kernel
theorem dX8_reads_41 : decode cX8_reads 41 = .ok (.if_icmp .ge 21, 3) := by decide +kernel
theorem dX8_reads_44 : decode cX8_reads 44 = .ok (.aload_n 0, 1) := by decide +kernel
theorem dX8_reads_45 : decode cX8_reads 45 = .ok (.getfield 19, 3) := by decide +kernel
theorem dX8_reads_48 : decode cX8_reads 48 = .ok (.aload_n 0, 1) := by decide +kernel
theorem dX8_reads_49 : decode cX8_reads 49 = .ok (.getfield 141, 3) := by decide +kernel
theorem dX8_reads_52 : decode cX8_reads 52 = .ok (.iaload, 1) := by decide +kernel
theorem dX8_reads_53 : decode cX8_reads 53 = .ok (.bipush 59, 2) := by decide +kernel
theorem dX8_reads_55 : decode cX8_reads 55 = .ok (.if_icmp .ne 7, 3) := by decide +kernel
theorem dX8_reads_58 : decode cX8_reads 58 = .ok (.iconst 1, 1) := by decide +kernel
theorem dX8_reads_59 : decode cX8_reads 59 = .ok (.goto 4, 3) := by decide +kernel
theorem dX8_reads_62 : decode cX8_reads 62 = .ok (.iconst 0, 1) := by decide +kernel
theorem dX8_reads_63 : decode cX8_reads 63 = .ok (.istore_n 2, 1) := by decide +kernel
theorem dX8_reads_64 : decode cX8_reads 64 = .ok (.iload_n 2, 1) := by decide +kernel
theorem dX8_reads_65 : decode cX8_reads 65 = .ok (.ifCond .eq (-45), 3) := by decide +kernel
theorem dX8_reads_68 : decode cX8_reads 68 = .ok (.aload_n 0, 1) := by decide +kernel
theorem dX8_reads_69 : decode cX8_reads 69 = .ok (.invokevirtual 157, 3) := by decide +kernel
theorem dX8_reads_72 : decode cX8_reads 72 = .ok (.aload_n 0, 1) := by decide +kernel
theorem dX8_reads_73 : decode cX8_reads 73 = .ok (.iload_n 1, 1) := by decide +kernel
theorem dX8_reads_74 : decode cX8_reads 74 = .ok (.invokevirtual 190, 3) := by decide +kernel
theorem dX8_reads_77 : decode cX8_reads 77 = .ok (.istore_n 2, 1) := by decide +kernel
theorem dX8_reads_78 : decode cX8_reads 78 = .ok (.aload_n 0, 1) := by decide +kernel
theorem dX8_reads_79 : decode cX8_reads 79 = .ok (.dup, 1) := by decide +kernel
theorem dX8_reads_80 : decode cX8_reads 80 = .ok (.getfield 187, 3) := by decide +kernel
theorem dX8_reads_83 : decode cX8_reads 83 = .ok (.iconst 1, 1) := by decide +kernel
theorem dX8_reads_84 : decode cX8_reads 84 = .ok (.iadd, 1) := by decide +kernel
theorem dX8_reads_85 : decode cX8_reads 85 = .ok (.putfield 187, 3) := by decide +kernel
theorem dX8_reads_88 : decode cX8_reads 88 = .ok (.goto (-68), 3) := by decide +kernel
theorem dX8_reads_91 : decode cX8_reads 91 = .ok (.iload_n 2, 1) := by decide +kernel
theorem dX8_reads_92 : decode cX8_reads 92 = .ok (.ireturn, 1) := by decide +kernel
theorem dX8_fault_0 : decode cX8_fault 0 = .ok (.aload_n 0, 1) := by decide +kernel
theorem dX8_fault_1 : decode cX8_fault 1 = .ok (.iconst 0, 1) := by decide +kernel
theorem dX8_fault_2 : decode cX8_fault 2 = .ok (.invokevirtual 194, 3) := by decide +kernel
theorem dX8_fault_5 : decode cX8_fault 5 = .ok (.ifCond .eq 7, 3) := by decide +kernel
theorem dX8_fault_8 : decode cX8_fault 8 = .ok (.iconst (-1), 1) := by decide +kernel
theorem dX8_fault_9 : decode cX8_fault 9 = .ok (.goto 7, 3) := by decide +kernel
theorem dX8_fault_12 : decode cX8_fault 12 = .ok (.aload_n 0, 1) := by decide +kernel
theorem dX8_fault_13 : decode cX8_fault 13 = .ok (.getfield 141, 3) := by decide +kernel
theorem dX8_fault_16 : decode cX8_fault 16 = .ok (.ireturn, 1) := by decide +kernel
theorem dX8_tell_0 : decode cX8_tell 0 = .ok (.aload_n 0, 1) := by decide +kernel
theorem dX8_tell_1 : decode cX8_tell 1 = .ok (.iconst 0, 1) := by decide +kernel
theorem dX8_tell_2 : decode cX8_tell 2 = .ok (.invokevirtual 194, 3) := by decide +kernel
theorem dX8_tell_5 : decode cX8_tell 5 = .ok (.ifCond .ne 6, 3) := by decide +kernel
theorem dX8_tell_8 : decode cX8_tell 8 = .ok (.bipush (-4), 2) := by decide +kernel
theorem dX8_tell_10 : decode cX8_tell 10 = .ok (.ireturn, 1) := by decide +kernel
theorem dX8_tell_11 : decode cX8_tell 11 = .ok (.aload_n 0, 1) := by decide +kernel
theorem dX8_tell_12 : decode cX8_tell 12 = .ok (.iconst 1, 1) := by decide +kernel
theorem dX8_tell_13 : decode cX8_tell 13 = .ok (.invokevirtual 194, 3) := by decide +kernel
theorem dX8_tell_16 : decode cX8_tell 16 = .ok (.pop, 1) := by decide +kernel
theorem dX8_tell_17 : decode cX8_tell 17 = .ok (.aload_n 0, 1) := by decide +kernel
theorem dX8_tell_18 : decode cX8_tell 18 = .ok (.iconst 0, 1) := by decide +kernel
theorem dX8_tell_19 : decode cX8_tell 19 = .ok (.putfield 127, 3) := by decide +kernel
theorem dX8_tell_22 : decode cX8_tell 22 = .ok (.aload_n 0, 1) := by decide +kernel
theorem dX8_tell_23 : decode cX8_tell 23 = .ok (.iconst 0, 1) := by decide +kernel
theorem dX8_tell_24 : decode cX8_tell 24 = .ok (.putfield 197, 3) := by decide +kernel
theorem dX8_tell_27 : decode cX8_tell 27 = .ok (.aload_n 0, 1) := by decide +kernel
theorem dX8_tell_28 : decode cX8_tell 28 = .ok (.getfield 187, 3) := by decide +kernel
theorem dX8_tell_31 : decode cX8_tell 31 = .ok (.ireturn, 1) := by decide +kernel
theorem dX8_keepPast_0 : decode cX8_keepPast 0 = .ok (.sipush 562, 3) := by decide +kernel
theorem dX8_keepPast_3 : decode cX8_keepPast 3 = .ok (.istore_n 1, 1) := by decide +kernel
theorem dX8_keepPast_4 : decode cX8_keepPast 4 = .ok (.iload_n 1, 1) := by decide +kernel
theorem dX8_keepPast_5 : decode cX8_keepPast 5 = .ok (.sipush 4496, 3) := by decide +kernel
theorem dX8_keepPast_8 : decode cX8_keepPast 8 = .ok (.if_icmp .ge 34, 3) := by decide +kernel
theorem dX8_keepPast_11 : decode cX8_keepPast 11 = .ok (.aload_n 0, 1) := by decide +kernel
theorem dX8_keepPast_12 : decode cX8_keepPast 12 = .ok (.getfield 197, 3) := by decide +kernel
theorem dX8_keepPast_15 : decode cX8_keepPast 15 = .ok (.bipush 8, 2) := by decide +kernel
theorem dX8_keepPast_17 : decode cX8_keepPast 17 = .ok (.if_icmp .ne 25, 3) := by decide +kernel
theorem dX8_keepPast_20 : decode cX8_keepPast 20 = .ok (.aload_n 0, 1) := by decide +kernel
theorem dX8_keepPast_21 : decode cX8_keepPast 21 = .ok (.getfield 7, 3) := by decide +kernel
theorem dX8_keepPast_24 : decode cX8_keepPast 24 = .ok (.iload_n 1, 1) := by decide +kernel
theorem dX8_keepPast_25 : decode cX8_keepPast 25 = .ok (.aload_n 0, 1) := by decide +kernel
theorem dX8_keepPast_26 : decode cX8_keepPast 26 = .ok (.getfield 7, 3) := by decide +kernel
theorem dX8_keepPast_29 : decode cX8_keepPast 29 = .ok (.iload_n 1, 1) := by decide +kernel
theorem dX8_keepPast_30 : decode cX8_keepPast 30 = .ok (.sipush 562, 3) := by decide +kernel
theorem dX8_keepPast_33 : decode cX8_keepPast 33 = .ok (.iadd, 1) := by decide +kernel
theorem dX8_keepPast_34 : decode cX8_keepPast 34 = .ok (.iaload, 1) := by decide +kernel
theorem dX8_keepPast_35 : decode cX8_keepPast 35 = .ok (.iastore, 1) := by decide +kernel
theorem dX8_keepPast_36 : decode cX8_keepPast 36 = .ok (.iinc 1 1, 3) := by decide +kernel
theorem dX8_keepPast_39 : decode cX8_keepPast 39 = .ok (.goto (-35), 3) := by decide +kernel
theorem dX8_keepPast_42 : decode cX8_keepPast 42 = .ok (.aload_n 0, 1) := by decide +kernel
theorem dX8_keepPast_43 : decode cX8_keepPast 43 = .ok (.dup, 1) := by decide +kernel
theorem dX8_keepPast_44 : decode cX8_keepPast 44 = .ok (.getfield 197, 3) := by decide +kernel
theorem dX8_keepPast_47 : decode cX8_keepPast 47 = .ok (.aload_n 0, 1) := by decide +kernel
theorem dX8_keepPast_48 : decode cX8_keepPast 48 = .ok (.getfield 197, 3) := by decide +kernel
theorem dX8_keepPast_51 : decode cX8_keepPast 51 = .ok (.bipush 8, 2) := by decide +kernel
theorem dX8_keepPast_53 : decode cX8_keepPast 53 = .ok (.if_icmp .ne 7, 3) := by decide +kernel
theorem dX8_keepPast_56 : decode cX8_keepPast 56 = .ok (.iconst 1, 1) := by decide +kernel
theorem dX8_keepPast_57 : decode cX8_keepPast 57 = .ok (.goto 4, 3) := by decide +kernel
theorem dX8_keepPast_60 : decode cX8_keepPast 60 = .ok (.iconst 0, 1) := by decide +kernel
theorem dX8_keepPast_61 : decode cX8_keepPast 61 = .ok (.isub, 1) := by decide +kernel
theorem dX8_keepPast_62 : decode cX8_keepPast 62 = .ok (.putfield 197, 3) := by decide +kernel
theorem dX8_keepPast_65 : decode cX8_keepPast 65 = .ok (.iconst 0, 1) := by decide +kernel
theorem dX8_keepPast_66 : decode cX8_keepPast 66 = .ok (.istore_n 1, 1) := by decide +kernel
theorem dX8_keepPast_67 : decode cX8_keepPast 67 = .ok (.iload_n 1, 1) := by decide +kernel
theorem dX8_keepPast_68 : decode cX8_keepPast 68 = .ok (.sipush 562, 3) := by decide +kernel
theorem dX8_keepPast_71 : decode cX8_keepPast 71 = .ok (.if_icmp .ge 34, 3) := by decide +kernel
theorem dX8_keepPast_74 : decode cX8_keepPast 74 = .ok (.aload_n 0, 1) := by decide +kernel
theorem dX8_keepPast_75 : decode cX8_keepPast 75 = .ok (.getfield 7, 3) := by decide +kernel
theorem dX8_keepPast_78 : decode cX8_keepPast 78 = .ok (.sipush 562, 3) := by decide +kernel
theorem dX8_keepPast_81 : decode cX8_keepPast 81 = .ok (.sipush 562, 3) := by decide +kernel
theorem dX8_keepPast_84 : decode cX8_keepPast 84 = .ok (.aload_n 0, 1) := by decide +kernel
theorem dX8_keepPast_85 : decode cX8_keepPast 85 = .ok (.getfield 197, 3) := by decide +kernel
theorem dX8_keepPast_88 : decode cX8_keepPast 88 = .ok (.imul, 1) := by decide +kernel
theorem dX8_keepPast_89 : decode cX8_keepPast 89 = .ok (.iadd, 1) := by decide +kernel
theorem dX8_keepPast_90 : decode cX8_keepPast 90 = .ok (.iload_n 1, 1) := by decide +kernel
theorem dX8_keepPast_91 : decode cX8_keepPast 91 = .ok (.iadd, 1) := by decide +kernel
theorem dX8_keepPast_92 : decode cX8_keepPast 92 = .ok (.aload_n 0, 1) := by decide +kernel
theorem dX8_keepPast_93 : decode cX8_keepPast 93 = .ok (.getfield 7, 3) := by decide +kernel
theorem dX8_keepPast_96 : decode cX8_keepPast 96 = .ok (.iload_n 1, 1) := by decide +kernel
theorem dX8_keepPast_97 : decode cX8_keepPast 97 = .ok (.iaload, 1) := by decide +kernel
theorem dX8_keepPast_98 : decode cX8_keepPast 98 = .ok (.iastore, 1) := by decide +kernel
theorem dX8_keepPast_99 : decode cX8_keepPast 99 = .ok (.iinc 1 1, 3) := by decide +kernel
theorem dX8_keepPast_102 : decode cX8_keepPast 102 = .ok (.goto (-35), 3) := by decide +kernel
theorem dX8_keepPast_105 : decode cX8_keepPast 105 = .ok (.aload_n 0, 1) := by decide +kernel
theorem dX8_keepPast_106 : decode cX8_keepPast 106 = .ok (.dup, 1) := by decide +kernel
theorem dX8_keepPast_107 : decode cX8_keepPast 107 = .ok (.getfield 197, 3) := by decide +kernel
theorem dX8_keepPast_110 : decode cX8_keepPast 110 = .ok (.iconst 1, 1) := by decide +kernel
theorem dX8_keepPast_111 : decode cX8_keepPast 111 = .ok (.iadd, 1) := by decide +kernel
theorem dX8_keepPast_112 : decode cX8_keepPast 112 = .ok (.putfield 197, 3) := by decide +kernel
theorem dX8_keepPast_115 : decode cX8_keepPast 115 = .ok (.return_, 1) := by decide +kernel
theorem dX8_whyNoSeries_0 : decode cX8_whyNoSeries 0 = .ok (.iload_n 1, 1) := by decide +kernel
theorem dX8_whyNoSeries_1 : decode cX8_whyNoSeries 1 = .ok (.iconst (-1), 1) := by decide +kernel
theorem dX8_whyNoSeries_2 : decode cX8_whyNoSeries 2 = .ok (.if_icmp .eq 14, 3) := by decide +kernel
theorem dX8_whyNoSeries_5 : decode cX8_whyNoSeries 5 = .ok (.aload_n 0, 1) := by decide +kernel
theorem dX8_whyNoSeries_6 : decode cX8_whyNoSeries 6 = .ok (.iload_n 1, 1) := by decide +kernel
theorem dX8_whyNoSeries_7 : decode cX8_whyNoSeries 7 = .ok (.invokevirtual 200, 3) := by decide +kernel
theorem dX8_whyNoSeries_10 : decode cX8_whyNoSeries 10 = .ok (.ifCond .ne 6, 3) := by decide +kernel
theorem dX8_whyNoSeries_13 : decode cX8_whyNoSeries 13 = .ok (.bipush (-2), 2) := by decide +kernel
theorem dX8_whyNoSeries_15 : decode cX8_whyNoSeries 15 = .ok (.ireturn, 1) := by decide +kernel
theorem dX8_whyNoSeries_16 : decode cX8_whyNoSeries 16 = .ok (.iload_n 2, 1) := by decide +kernel
theorem dX8_whyNoSeries_17 : decode cX8_whyNoSeries 17 = .ok (.iload_n 3, 1) := by decide +kernel
theorem dX8_whyNoSeries_18 : decode cX8_whyNoSeries 18 = .ok (.invokestatic 203, 3) := by decide +kernel
theorem dX8_whyNoSeries_21 : decode cX8_whyNoSeries 21 = .ok (.ifCond .ne 6, 3) := by decide +kernel
theorem dX8_whyNoSeries_24 : decode cX8_whyNoSeries 24 = .ok (.bipush (-3), 2) := by decide +kernel
theorem dX8_whyNoSeries_26 : decode cX8_whyNoSeries 26 = .ok (.ireturn, 1) := by decide +kernel
theorem dX8_whyNoSeries_27 : decode cX8_whyNoSeries 27 = .ok (.iload_n 1, 1) := by decide +kernel
theorem dX8_whyNoSeries_28 : decode cX8_whyNoSeries 28 = .ok (.iconst (-1), 1) := by decide +kernel
theorem dX8_whyNoSeries_29 : decode cX8_whyNoSeries 29 = .ok (.if_icmp .eq 21, 3) := by decide +kernel
theorem dX8_whyNoSeries_32 : decode cX8_whyNoSeries 32 = .ok (.iload_n 2, 1) := by decide +kernel
theorem dX8_whyNoSeries_33 : decode cX8_whyNoSeries 33 = .ok (.aload_n 0, 1) := by decide +kernel
theorem dX8_whyNoSeries_34 : decode cX8_whyNoSeries 34 = .ok (.iload_n 1, 1) := by decide +kernel
theorem dX8_whyNoSeries_35 : decode cX8_whyNoSeries 35 = .ok (.invokevirtual 93, 3) := by decide +kernel
theorem dX8_whyNoSeries_38 : decode cX8_whyNoSeries 38 = .ok (.if_icmp .lt 16, 3) := by decide +kernel
theorem dX8_whyNoSeries_41 : decode cX8_whyNoSeries 41 = .ok (.iload_n 3, 1) := by decide +kernel
theorem dX8_whyNoSeries_42 : decode cX8_whyNoSeries 42 = .ok (.aload_n 0, 1) := by decide +kernel
theorem dX8_whyNoSeries_43 : decode cX8_whyNoSeries 43 = .ok (.iload_n 1, 1) := by decide +kernel
theorem dX8_whyNoSeries_44 : decode cX8_whyNoSeries 44 = .ok (.invokevirtual 97, 3) := by decide +kernel
theorem dX8_whyNoSeries_47 : decode cX8_whyNoSeries 47 = .ok (.if_icmp .gt 7, 3) := by decide +kernel
theorem dX8_whyNoSeries_50 : decode cX8_whyNoSeries 50 = .ok (.iconst 1, 1) := by decide +kernel
theorem dX8_whyNoSeries_51 : decode cX8_whyNoSeries 51 = .ok (.goto 4, 3) := by decide +kernel
theorem dX8_whyNoSeries_54 : decode cX8_whyNoSeries 54 = .ok (.iconst 0, 1) := by decide +kernel
theorem dX8_whyNoSeries_55 : decode cX8_whyNoSeries 55 = .ok (.istore 4, 2) := by decide +kernel
theorem dX8_whyNoSeries_57 : decode cX8_whyNoSeries 57 = .ok (.iconst 0, 1) := by decide +kernel
theorem dX8_whyNoSeries_58 : decode cX8_whyNoSeries 58 = .ok (.istore 5, 2) := by decide +kernel
theorem dX8_whyNoSeries_60 : decode cX8_whyNoSeries 60 = .ok (.iload 5, 2) := by decide +kernel
theorem dX8_whyNoSeries_62 : decode cX8_whyNoSeries 62 = .ok (.aload_n 0, 1) := by decide +kernel
theorem dX8_whyNoSeries_63 : decode cX8_whyNoSeries 63 = .ok (.getfield 7, 3) := by decide +kernel
theorem dX8_whyNoSeries_66 : decode cX8_whyNoSeries 66 = .ok (.iconst 0, 1) := by decide +kernel
theorem dX8_whyNoSeries_67 : decode cX8_whyNoSeries 67 = .ok (.iaload, 1) := by decide +kernel
theorem dX8_whyNoSeries_68 : decode cX8_whyNoSeries 68 = .ok (.if_icmp .ge 51, 3) := by decide +kernel
theorem dX8_whyNoSeries_71 : decode cX8_whyNoSeries 71 = .ok (.iload 4, 2) := by decide +kernel
theorem dX8_whyNoSeries_73 : decode cX8_whyNoSeries 73 = .ok (.ifCond .eq 37, 3) := by decide +kernel
theorem dX8_whyNoSeries_76 : decode cX8_whyNoSeries 76 = .ok (.aload_n 0, 1) := by decide +kernel
theorem dX8_whyNoSeries_77 : decode cX8_whyNoSeries 77 = .ok (.iload 5, 2) := by decide +kernel
theorem dX8_whyNoSeries_79 : decode cX8_whyNoSeries 79 = .ok (.invokevirtual 100, 3) := by decide +kernel
theorem dX8_whyNoSeries_82 : decode cX8_whyNoSeries 82 = .ok (.iload_n 1, 1) := by decide +kernel
theorem dX8_whyNoSeries_83 : decode cX8_whyNoSeries 83 = .ok (.if_icmp .ne 23, 3) := by decide +kernel
theorem dX8_whyNoSeries_86 : decode cX8_whyNoSeries 86 = .ok (.aload_n 0, 1) := by decide +kernel
theorem dX8_whyNoSeries_87 : decode cX8_whyNoSeries 87 = .ok (.iload 5, 2) := by decide +kernel
theorem dX8_whyNoSeries_89 : decode cX8_whyNoSeries 89 = .ok (.invokevirtual 93, 3) := by decide +kernel
theorem dX8_whyNoSeries_92 : decode cX8_whyNoSeries 92 = .ok (.aload_n 0, 1) := by decide +kernel
theorem dX8_whyNoSeries_93 : decode cX8_whyNoSeries 93 = .ok (.iload 5, 2) := by decide +kernel
theorem dX8_whyNoSeries_95 : decode cX8_whyNoSeries 95 = .ok (.invokevirtual 97, 3) := by decide +kernel
theorem dX8_whyNoSeries_98 : decode cX8_whyNoSeries 98 = .ok (.iload_n 2, 1) := by decide +kernel
theorem dX8_whyNoSeries_99 : decode cX8_whyNoSeries 99 = .ok (.iload_n 3, 1) := by decide +kernel
theorem dX8_whyNoSeries_100 : decode cX8_whyNoSeries 100 = .ok (.invokestatic 74, 3) := by decide +kernel
theorem dX8_whyNoSeries_103 : decode cX8_whyNoSeries 103 = .ok (.ifCond .ne 7, 3) := by decide +kernel
theorem dX8_whyNoSeries_106 : decode cX8_whyNoSeries 106 = .ok (.iconst 1, 1) := by decide +kernel
theorem dX8_whyNoSeries_107 : decode cX8_whyNoSeries 107 = .ok (.goto 4, 3) := by decide +kernel
theorem dX8_whyNoSeries_110 : decode cX8_whyNoSeries 110 = .ok (.iconst 0, 1) := by decide +kernel
theorem dX8_whyNoSeries_111 : decode cX8_whyNoSeries 111 = .ok (.istore 4, 2) := by decide +kernel
theorem dX8_whyNoSeries_113 : decode cX8_whyNoSeries 113 = .ok (.iinc 5 1, 3) := by decide +kernel
theorem dX8_whyNoSeries_116 : decode cX8_whyNoSeries 116 = .ok (.goto (-56), 3) := by decide +kernel
theorem dX8_whyNoSeries_119 : decode cX8_whyNoSeries 119 = .ok (.iload 4, 2) := by decide +kernel
theorem dX8_whyNoSeries_121 : decode cX8_whyNoSeries 121 = .ok (.ifCond .ne 8, 3) := by decide +kernel
theorem dX8_whyNoSeries_124 : decode cX8_whyNoSeries 124 = .ok (.bipush (-4), 2) := by decide +kernel
theorem dX8_whyNoSeries_126 : decode cX8_whyNoSeries 126 = .ok (.goto 20, 3) := by decide +kernel
theorem dX8_whyNoSeries_129 : decode cX8_whyNoSeries 129 = .ok (.aload_n 0, 1) := by decide +kernel
theorem dX8_whyNoSeries_130 : decode cX8_whyNoSeries 130 = .ok (.getfield 7, 3) := by decide +kernel
theorem dX8_whyNoSeries_133 : decode cX8_whyNoSeries 133 = .ok (.iconst 0, 1) := by decide +kernel
theorem dX8_whyNoSeries_134 : decode cX8_whyNoSeries 134 = .ok (.iaload, 1) := by decide +kernel
theorem dX8_whyNoSeries_135 : decode cX8_whyNoSeries 135 = .ok (.bipush 10, 2) := by decide +kernel
theorem dX8_whyNoSeries_137 : decode cX8_whyNoSeries 137 = .ok (.if_icmp .ne 8, 3) := by decide +kernel
theorem dX8_whyNoSeries_140 : decode cX8_whyNoSeries 140 = .ok (.bipush (-5), 2) := by decide +kernel
theorem dX8_whyNoSeries_142 : decode cX8_whyNoSeries 142 = .ok (.goto 4, 3) := by decide +kernel
theorem dX8_whyNoSeries_145 : decode cX8_whyNoSeries 145 = .ok (.iconst 0, 1) := by decide +kernel
theorem dX8_whyNoSeries_146 : decode cX8_whyNoSeries 146 = .ok (.ireturn, 1) := by decide +kernel
theorem dX8_adds_0 : decode cX8_adds 0 = .ok (.aload_n 0, 1) := by decide +kernel
theorem dX8_adds_1 : decode cX8_adds 1 = .ok (.iload_n 1, 1) := by decide +kernel
theorem dX8_adds_2 : decode cX8_adds 2 = .ok (.iload_n 2, 1) := by decide +kernel
theorem dX8_adds_3 : decode cX8_adds 3 = .ok (.iload_n 3, 1) := by decide +kernel
theorem dX8_adds_4 : decode cX8_adds 4 = .ok (.invokevirtual 206, 3) := by decide +kernel
theorem dX8_adds_7 : decode cX8_adds 7 = .ok (.ifCond .eq 4, 3) := by decide +kernel
theorem dX8_adds_10 : decode cX8_adds 10 = .ok (.return_, 1) := by decide +kernel
theorem dX8_adds_11 : decode cX8_adds 11 = .ok (.iconst 4, 1) := by decide +kernel
theorem dX8_adds_12 : decode cX8_adds 12 = .ok (.iconst 3, 1) := by decide +kernel
theorem dX8_adds_13 : decode cX8_adds 13 = .ok (.aload_n 0, 1) := by decide +kernel
theorem dX8_adds_14 : decode cX8_adds 14 = .ok (.getfield 7, 3) := by decide +kernel
theorem dX8_adds_17 : decode cX8_adds 17 = .ok (.iconst 0, 1) := by decide +kernel
theorem dX8_adds_18 : decode cX8_adds 18 = .ok (.iaload, 1) := by decide +kernel
theorem dX8_adds_19 : decode cX8_adds 19 = .ok (.imul, 1) := by decide +kernel
theorem dX8_adds_20 : decode cX8_adds 20 = .ok (.iadd, 1) := by decide +kernel
theorem dX8_adds_21 : decode cX8_adds 21 = .ok (.istore 4, 2) := by decide +kernel
theorem dX8_adds_23 : decode cX8_adds 23 = .ok (.aload_n 0, 1) := by decide +kernel
theorem dX8_adds_24 : decode cX8_adds 24 = .ok (.getfield 7, 3) := by decide +kernel
theorem dX8_adds_27 : decode cX8_adds 27 = .ok (.iload 4, 2) := by decide +kernel
theorem dX8_adds_29 : decode cX8_adds 29 = .ok (.iload_n 1, 1) := by decide +kernel
theorem dX8_adds_30 : decode cX8_adds 30 = .ok (.iastore, 1) := by decide +kernel
theorem dX8_adds_31 : decode cX8_adds 31 = .ok (.aload_n 0, 1) := by decide +kernel
theorem dX8_adds_32 : decode cX8_adds 32 = .ok (.getfield 7, 3) := by decide +kernel
theorem dX8_adds_35 : decode cX8_adds 35 = .ok (.iload 4, 2) := by decide +kernel
theorem dX8_adds_37 : decode cX8_adds 37 = .ok (.iconst 1, 1) := by decide +kernel
theorem dX8_adds_38 : decode cX8_adds 38 = .ok (.iadd, 1) := by decide +kernel
theorem dX8_adds_39 : decode cX8_adds 39 = .ok (.iload_n 2, 1) := by decide +kernel
theorem dX8_adds_40 : decode cX8_adds 40 = .ok (.iastore, 1) := by decide +kernel
theorem dX8_adds_41 : decode cX8_adds 41 = .ok (.aload_n 0, 1) := by decide +kernel
theorem dX8_adds_42 : decode cX8_adds 42 = .ok (.getfield 7, 3) := by decide +kernel
theorem dX8_adds_45 : decode cX8_adds 45 = .ok (.iload 4, 2) := by decide +kernel
theorem dX8_adds_47 : decode cX8_adds 47 = .ok (.iconst 2, 1) := by decide +kernel
theorem dX8_adds_48 : decode cX8_adds 48 = .ok (.iadd, 1) := by decide +kernel
theorem dX8_adds_49 : decode cX8_adds 49 = .ok (.iload_n 3, 1) := by decide +kernel
theorem dX8_adds_50 : decode cX8_adds 50 = .ok (.iastore, 1) := by decide +kernel
theorem dX8_adds_51 : decode cX8_adds 51 = .ok (.aload_n 0, 1) := by decide +kernel
theorem dX8_adds_52 : decode cX8_adds 52 = .ok (.getfield 7, 3) := by decide +kernel
theorem dX8_adds_55 : decode cX8_adds 55 = .ok (.iconst 0, 1) := by decide +kernel
theorem dX8_adds_56 : decode cX8_adds 56 = .ok (.dup2, 1) := by decide +kernel
theorem dX8_adds_57 : decode cX8_adds 57 = .ok (.iaload, 1) := by decide +kernel
theorem dX8_adds_58 : decode cX8_adds 58 = .ok (.iconst 1, 1) := by decide +kernel
theorem dX8_adds_59 : decode cX8_adds 59 = .ok (.iadd, 1) := by decide +kernel
theorem dX8_adds_60 : decode cX8_adds 60 = .ok (.iastore, 1) := by decide +kernel
theorem dX8_adds_61 : decode cX8_adds 61 = .ok (.return_, 1) := by decide +kernel
theorem dX8_series_0 : decode cX8_series 0 = .ok (.aload_n 0, 1) := by decide +kernel
theorem dX8_series_1 : decode cX8_series 1 = .ok (.iload_n 1, 1) := by decide +kernel
theorem dX8_series_2 : decode cX8_series 2 = .ok (.iload_n 2, 1) := by decide +kernel
theorem dX8_series_3 : decode cX8_series 3 = .ok (.iload_n 3, 1) := by decide +kernel
theorem dX8_series_4 : decode cX8_series 4 = .ok (.invokevirtual 206, 3) := by decide +kernel
theorem dX8_series_7 : decode cX8_series 7 = .ok (.istore 4, 2) := by decide +kernel
theorem dX8_series_9 : decode cX8_series 9 = .ok (.iload 4, 2) := by decide +kernel
theorem dX8_series_11 : decode cX8_series 11 = .ok (.ifCond .eq 6, 3) := by decide +kernel
theorem dX8_series_14 : decode cX8_series 14 = .ok (.iload 4, 2) := by decide +kernel
theorem dX8_series_16 : decode cX8_series 16 = .ok (.ireturn, 1) := by decide +kernel
theorem dX8_series_17 : decode cX8_series 17 = .ok (.aload_n 0, 1) := by decide +kernel
theorem dX8_series_18 : decode cX8_series 18 = .ok (.invokevirtual 209, 3) := by decide +kernel
theorem dX8_series_21 : decode cX8_series 21 = .ok (.aload_n 0, 1) := by decide +kernel
theorem dX8_series_22 : decode cX8_series 22 = .ok (.iload_n 1, 1) := by decide +kernel
theorem dX8_series_23 : decode cX8_series 23 = .ok (.iload_n 2, 1) := by decide +kernel
theorem dX8_series_24 : decode cX8_series 24 = .ok (.iload_n 3, 1) := by decide +kernel
theorem dX8_series_25 : decode cX8_series 25 = .ok (.invokevirtual 163, 3) := by decide +kernel
theorem dX8_series_28 : decode cX8_series 28 = .ok (.aload_n 0, 1) := by decide +kernel
theorem dX8_series_29 : decode cX8_series 29 = .ok (.getfield 7, 3) := by decide +kernel
theorem dX8_series_32 : decode cX8_series 32 = .ok (.iconst 0, 1) := by decide +kernel
theorem dX8_series_33 : decode cX8_series 33 = .ok (.iaload, 1) := by decide +kernel
theorem dX8_series_34 : decode cX8_series 34 = .ok (.iconst 1, 1) := by decide +kernel
theorem dX8_series_35 : decode cX8_series 35 = .ok (.isub, 1) := by decide +kernel
theorem dX8_series_36 : decode cX8_series 36 = .ok (.ireturn, 1) := by decide +kernel
theorem dX8_rooms_0 : decode cX8_rooms 0 = .ok (.aload_n 0, 1) := by decide +kernel
theorem dX8_rooms_1 : decode cX8_rooms 1 = .ok (.getfield 7, 3) := by decide +kernel
theorem dX8_rooms_4 : decode cX8_rooms 4 = .ok (.bipush 34, 2) := by decide +kernel
theorem dX8_rooms_6 : decode cX8_rooms 6 = .ok (.iload_n 1, 1) := by decide +kernel
theorem dX8_rooms_7 : decode cX8_rooms 7 = .ok (.iadd, 1) := by decide +kernel
theorem dX8_rooms_8 : decode cX8_rooms 8 = .ok (.aload_n 0, 1) := by decide +kernel
theorem dX8_rooms_9 : decode cX8_rooms 9 = .ok (.iload_n 1, 1) := by decide +kernel
theorem dX8_rooms_10 : decode cX8_rooms 10 = .ok (.invokevirtual 119, 3) := by decide +kernel
theorem dX8_rooms_13 : decode cX8_rooms 13 = .ok (.iload_n 2, 1) := by decide +kernel
theorem dX8_rooms_14 : decode cX8_rooms 14 = .ok (.if_icmp .le 15, 3) := by decide +kernel
theorem dX8_rooms_17 : decode cX8_rooms 17 = .ok (.aload_n 0, 1) := by decide +kernel
theorem dX8_rooms_18 : decode cX8_rooms 18 = .ok (.getfield 7, 3) := by decide +kernel
theorem dX8_rooms_21 : decode cX8_rooms 21 = .ok (.bipush 34, 2) := by decide +kernel
theorem dX8_rooms_23 : decode cX8_rooms 23 = .ok (.iload_n 1, 1) := by decide +kernel
theorem dX8_rooms_24 : decode cX8_rooms 24 = .ok (.iadd, 1) := by decide +kernel
theorem dX8_rooms_25 : decode cX8_rooms 25 = .ok (.iaload, 1) := by decide +kernel
theorem dX8_rooms_26 : decode cX8_rooms 26 = .ok (.goto 4, 3) := by decide +kernel
theorem dX8_rooms_29 : decode cX8_rooms 29 = .ok (.iload_n 2, 1) := by decide +kernel
theorem dX8_rooms_30 : decode cX8_rooms 30 = .ok (.iastore, 1) := by decide +kernel
theorem dX8_rooms_31 : decode cX8_rooms 31 = .ok (.return_, 1) := by decide +kernel
theorem dX8_room_0 : decode cX8_room 0 = .ok (.iload_n 1, 1) := by decide +kernel
theorem dX8_room_1 : decode cX8_room 1 = .ok (.invokestatic 212, 3) := by decide +kernel
theorem dX8_room_4 : decode cX8_room 4 = .ok (.ifCond .ne 6, 3) := by decide +kernel
theorem dX8_room_7 : decode cX8_room 7 = .ok (.bipush (-2), 2) := by decide +kernel
theorem dX8_room_9 : decode cX8_room 9 = .ok (.ireturn, 1) := by decide +kernel
theorem dX8_room_10 : decode cX8_room 10 = .ok (.iload_n 2, 1) := by decide +kernel
theorem dX8_room_11 : decode cX8_room 11 = .ok (.i2l, 1) := by decide +kernel
theorem dX8_room_12 : decode cX8_room 12 = .ok (.lconst 0, 1) := by decide +kernel
theorem dX8_room_13 : decode cX8_room 13 = .ok (.ldc2_w 56, 3) := by decide +kernel
theorem dX8_room_16 : decode cX8_room 16 = .ok (.invokestatic 58, 3) := by decide +kernel
theorem dX8_room_19 : decode cX8_room 19 = .ok (.ifCond .ne 6, 3) := by decide +kernel
theorem dX8_room_22 : decode cX8_room 22 = .ok (.bipush (-3), 2) := by decide +kernel
theorem dX8_room_24 : decode cX8_room 24 = .ok (.ireturn, 1) := by decide +kernel
theorem dX8_room_25 : decode cX8_room 25 = .ok (.aload_n 0, 1) := by decide +kernel
theorem dX8_room_26 : decode cX8_room 26 = .ok (.iload_n 1, 1) := by decide +kernel
theorem dX8_room_27 : decode cX8_room 27 = .ok (.invokevirtual 119, 3) := by decide +kernel
theorem dX8_room_30 : decode cX8_room 30 = .ok (.iload_n 2, 1) := by decide +kernel
theorem dX8_room_31 : decode cX8_room 31 = .ok (.if_icmp .le 6, 3) := by decide +kernel
theorem dX8_room_34 : decode cX8_room 34 = .ok (.bipush (-4), 2) := by decide +kernel
theorem dX8_room_36 : decode cX8_room 36 = .ok (.ireturn, 1) := by decide +kernel
theorem dX8_room_37 : decode cX8_room 37 = .ok (.aload_n 0, 1) := by decide +kernel
theorem dX8_room_38 : decode cX8_room 38 = .ok (.invokevirtual 209, 3) := by decide +kernel
theorem dX8_room_41 : decode cX8_room 41 = .ok (.aload_n 0, 1) := by decide +kernel
theorem dX8_room_42 : decode cX8_room 42 = .ok (.getfield 7, 3) := by decide +kernel
theorem dX8_room_45 : decode cX8_room 45 = .ok (.bipush 34, 2) := by decide +kernel
theorem dX8_room_47 : decode cX8_room 47 = .ok (.iload_n 1, 1) := by decide +kernel
theorem dX8_room_48 : decode cX8_room 48 = .ok (.iadd, 1) := by decide +kernel
theorem dX8_room_49 : decode cX8_room 49 = .ok (.iaload, 1) := by decide +kernel
theorem dX8_room_50 : decode cX8_room 50 = .ok (.istore_n 3, 1) := by decide +kernel
theorem dX8_room_51 : decode cX8_room 51 = .ok (.aload_n 0, 1) := by decide +kernel
theorem dX8_room_52 : decode cX8_room 52 = .ok (.iload_n 1, 1) := by decide +kernel
theorem dX8_room_53 : decode cX8_room 53 = .ok (.iload_n 2, 1) := by decide +kernel
theorem dX8_room_54 : decode cX8_room 54 = .ok (.invokevirtual 166, 3) := by decide +kernel
theorem dX8_room_57 : decode cX8_room 57 = .ok (.iload_n 3, 1) := by decide +kernel
theorem dX8_room_58 : decode cX8_room 58 = .ok (.ireturn, 1) := by decide +kernel
theorem dX8_brings_0 : decode cX8_brings 0 = .ok (.aload_n 0, 1) := by decide +kernel
theorem dX8_brings_1 : decode cX8_brings 1 = .ok (.iload_n 1, 1) := by decide +kernel
theorem dX8_brings_2 : decode cX8_brings 2 = .ok (.iload_n 2, 1) := by decide +kernel
theorem dX8_brings_3 : decode cX8_brings 3 = .ok (.iload_n 3, 1) := by decide +kernel
theorem dX8_brings_4 : decode cX8_brings 4 = .ok (.invokevirtual 215, 3) := by decide +kernel
theorem dX8_brings_7 : decode cX8_brings 7 = .ok (.ifCond .eq 10, 3) := by decide +kernel
theorem dX8_brings_10 : decode cX8_brings 10 = .ok (.aload_n 0, 1) := by decide +kernel
theorem dX8_brings_11 : decode cX8_brings 11 = .ok (.iload_n 1, 1) := by decide +kernel
theorem dX8_brings_12 : decode cX8_brings 12 = .ok (.iload_n 2, 1) := by decide +kernel
theorem dX8_brings_13 : decode cX8_brings 13 = .ok (.iload_n 3, 1) := by decide +kernel
theorem dX8_brings_14 : decode cX8_brings 14 = .ok (.invokevirtual 219, 3) := by decide +kernel
theorem dX8_brings_17 : decode cX8_brings 17 = .ok (.return_, 1) := by decide +kernel
theorem dX8_lay_0 : decode cX8_lay 0 = .ok (.iload_n 1, 1) := by decide +kernel
theorem dX8_lay_1 : decode cX8_lay 1 = .ok (.invokestatic 212, 3) := by decide +kernel
theorem dX8_lay_4 : decode cX8_lay 4 = .ok (.ifCond .ne 6, 3) := by decide +kernel
theorem dX8_lay_7 : decode cX8_lay 7 = .ok (.bipush (-2), 2) := by decide +kernel
theorem dX8_lay_9 : decode cX8_lay 9 = .ok (.ireturn, 1) := by decide +kernel
theorem dX8_lay_10 : decode cX8_lay 10 = .ok (.iload_n 2, 1) := by decide +kernel
theorem dX8_lay_11 : decode cX8_lay 11 = .ok (.iload_n 3, 1) := by decide +kernel
theorem dX8_lay_12 : decode cX8_lay 12 = .ok (.invokestatic 203, 3) := by decide +kernel
theorem dX8_lay_15 : decode cX8_lay 15 = .ok (.ifCond .ne 6, 3) := by decide +kernel
theorem dX8_lay_18 : decode cX8_lay 18 = .ok (.bipush (-3), 2) := by decide +kernel
theorem dX8_lay_20 : decode cX8_lay 20 = .ok (.ireturn, 1) := by decide +kernel
theorem dX8_lay_21 : decode cX8_lay 21 = .ok (.aload_n 0, 1) := by decide +kernel
theorem dX8_lay_22 : decode cX8_lay 22 = .ok (.iload_n 2, 1) := by decide +kernel
theorem dX8_lay_23 : decode cX8_lay 23 = .ok (.iload_n 3, 1) := by decide +kernel
theorem dX8_lay_24 : decode cX8_lay 24 = .ok (.iload_n 1, 1) := by decide +kernel
theorem dX8_lay_25 : decode cX8_lay 25 = .ok (.invokevirtual 215, 3) := by decide +kernel
theorem dX8_lay_28 : decode cX8_lay 28 = .ok (.ifCond .ne 6, 3) := by decide +kernel
theorem dX8_lay_31 : decode cX8_lay 31 = .ok (.bipush (-5), 2) := by decide +kernel
theorem dX8_lay_33 : decode cX8_lay 33 = .ok (.ireturn, 1) := by decide +kernel
theorem dX8_lay_34 : decode cX8_lay 34 = .ok (.aload_n 0, 1) := by decide +kernel
theorem dX8_lay_35 : decode cX8_lay 35 = .ok (.iload_n 1, 1) := by decide +kernel
theorem dX8_lay_36 : decode cX8_lay 36 = .ok (.iload_n 2, 1) := by decide +kernel
theorem dX8_lay_37 : decode cX8_lay 37 = .ok (.iload_n 3, 1) := by decide +kernel
theorem dX8_lay_38 : decode cX8_lay 38 = .ok (.invokevirtual 79, 3) := by decide +kernel
theorem dX8_lay_41 : decode cX8_lay 41 = .ok (.istore 4, 2) := by decide +kernel
theorem dX8_lay_43 : decode cX8_lay 43 = .ok (.aload_n 0, 1) := by decide +kernel
theorem dX8_lay_44 : decode cX8_lay 44 = .ok (.invokevirtual 209, 3) := by decide +kernel
theorem dX8_lay_47 : decode cX8_lay 47 = .ok (.aload_n 0, 1) := by decide +kernel
theorem dX8_lay_48 : decode cX8_lay 48 = .ok (.iload_n 2, 1) := by decide +kernel
theorem dX8_lay_49 : decode cX8_lay 49 = .ok (.iload_n 3, 1) := by decide +kernel
theorem dX8_lay_50 : decode cX8_lay 50 = .ok (.iload_n 1, 1) := by decide +kernel
theorem dX8_lay_51 : decode cX8_lay 51 = .ok (.invokevirtual 219, 3) := by decide +kernel
theorem dX8_lay_54 : decode cX8_lay 54 = .ok (.iload_n 3, 1) := by decide +kernel
theorem dX8_lay_55 : decode cX8_lay 55 = .ok (.iload_n 2, 1) := by decide +kernel
theorem dX8_lay_56 : decode cX8_lay 56 = .ok (.isub, 1) := by decide +kernel
theorem dX8_lay_57 : decode cX8_lay 57 = .ok (.iconst 1, 1) := by decide +kernel
theorem dX8_lay_58 : decode cX8_lay 58 = .ok (.iadd, 1) := by decide +kernel
theorem dX8_lay_59 : decode cX8_lay 59 = .ok (.iload 4, 2) := by decide +kernel
theorem dX8_lay_61 : decode cX8_lay 61 = .ok (.isub, 1) := by decide +kernel
theorem dX8_lay_62 : decode cX8_lay 62 = .ok (.ireturn, 1) := by decide +kernel
theorem dX8_take_0 : decode cX8_take 0 = .ok (.iload_n 1, 1) := by decide +kernel
theorem dX8_take_1 : decode cX8_take 1 = .ok (.iload_n 2, 1) := by decide +kernel
theorem dX8_take_2 : decode cX8_take 2 = .ok (.invokestatic 203, 3) := by decide +kernel
theorem dX8_take_5 : decode cX8_take 5 = .ok (.ifCond .ne 6, 3) := by decide +kernel
theorem dX8_take_8 : decode cX8_take 8 = .ok (.bipush (-3), 2) := by decide +kernel
theorem dX8_take_10 : decode cX8_take 10 = .ok (.ireturn, 1) := by decide +kernel
theorem dX8_take_11 : decode cX8_take 11 = .ok (.aload_n 0, 1) := by decide +kernel
theorem dX8_take_12 : decode cX8_take 12 = .ok (.iload_n 1, 1) := by decide +kernel
theorem dX8_take_13 : decode cX8_take 13 = .ok (.iload_n 2, 1) := by decide +kernel
theorem dX8_take_14 : decode cX8_take 14 = .ok (.iconst (-1), 1) := by decide +kernel
theorem dX8_take_15 : decode cX8_take 15 = .ok (.invokevirtual 215, 3) := by decide +kernel
theorem dX8_take_18 : decode cX8_take 18 = .ok (.ifCond .ne 6, 3) := by decide +kernel
theorem dX8_take_21 : decode cX8_take 21 = .ok (.bipush (-5), 2) := by decide +kernel
theorem dX8_take_23 : decode cX8_take 23 = .ok (.ireturn, 1) := by decide +kernel
theorem dX8_take_24 : decode cX8_take 24 = .ok (.aload_n 0, 1) := by decide +kernel
theorem dX8_take_25 : decode cX8_take 25 = .ok (.iconst (-1), 1) := by decide +kernel
theorem dX8_take_26 : decode cX8_take 26 = .ok (.iload_n 1, 1) := by decide +kernel
theorem dX8_take_27 : decode cX8_take 27 = .ok (.iload_n 2, 1) := by decide +kernel
theorem dX8_take_28 : decode cX8_take 28 = .ok (.invokevirtual 79, 3) := by decide +kernel
theorem dX8_take_31 : decode cX8_take 31 = .ok (.istore_n 3, 1) := by decide +kernel
theorem dX8_take_32 : decode cX8_take 32 = .ok (.aload_n 0, 1) := by decide +kernel
theorem dX8_take_33 : decode cX8_take 33 = .ok (.invokevirtual 209, 3) := by decide +kernel
theorem dX8_take_36 : decode cX8_take 36 = .ok (.aload_n 0, 1) := by decide +kernel
theorem dX8_take_37 : decode cX8_take 37 = .ok (.iload_n 1, 1) := by decide +kernel
theorem dX8_take_38 : decode cX8_take 38 = .ok (.iload_n 2, 1) := by decide +kernel
theorem dX8_take_39 : decode cX8_take 39 = .ok (.iconst (-1), 1) := by decide +kernel
theorem dX8_take_40 : decode cX8_take 40 = .ok (.invokevirtual 219, 3) := by decide +kernel
theorem dX8_take_43 : decode cX8_take 43 = .ok (.iload_n 3, 1) := by decide +kernel
theorem dX8_take_44 : decode cX8_take 44 = .ok (.ireturn, 1) := by decide +kernel
theorem dX8_piecesOf_0 : decode cX8_piecesOf 0 = .ok (.iconst 0, 1) := by decide +kernel
theorem dX8_piecesOf_1 : decode cX8_piecesOf 1 = .ok (.istore_n 2, 1) := by decide +kernel
theorem dX8_piecesOf_2 : decode cX8_piecesOf 2 = .ok (.iconst 0, 1) := by decide +kernel
theorem dX8_piecesOf_3 : decode cX8_piecesOf 3 = .ok (.istore_n 3, 1) := by decide +kernel
theorem dX8_piecesOf_4 : decode cX8_piecesOf 4 = .ok (.iload_n 3, 1) := by decide +kernel
theorem dX8_piecesOf_5 : decode cX8_piecesOf 5 = .ok (.aload_n 0, 1) := by decide +kernel
theorem dX8_piecesOf_6 : decode cX8_piecesOf 6 = .ok (.getfield 7, 3) := by decide +kernel
theorem dX8_piecesOf_9 : decode cX8_piecesOf 9 = .ok (.iconst 1, 1) := by decide +kernel
theorem dX8_piecesOf_10 : decode cX8_piecesOf 10 = .ok (.iaload, 1) := by decide +kernel
theorem dX8_piecesOf_11 : decode cX8_piecesOf 11 = .ok (.if_icmp .ge 27, 3) := by decide +kernel
theorem dX8_piecesOf_14 : decode cX8_piecesOf 14 = .ok (.iload_n 2, 1) := by decide +kernel
theorem dX8_piecesOf_15 : decode cX8_piecesOf 15 = .ok (.aload_n 0, 1) := by decide +kernel
theorem dX8_piecesOf_16 : decode cX8_piecesOf 16 = .ok (.iload_n 3, 1) := by decide +kernel
theorem dX8_piecesOf_17 : decode cX8_piecesOf 17 = .ok (.iconst 2, 1) := by decide +kernel
theorem dX8_piecesOf_18 : decode cX8_piecesOf 18 = .ok (.invokevirtual 71, 3) := by decide +kernel
theorem dX8_piecesOf_21 : decode cX8_piecesOf 21 = .ok (.iload_n 1, 1) := by decide +kernel
theorem dX8_piecesOf_22 : decode cX8_piecesOf 22 = .ok (.if_icmp .ne 7, 3) := by decide +kernel
theorem dX8_piecesOf_25 : decode cX8_piecesOf 25 = .ok (.iconst 1, 1) := by decide +kernel
theorem dX8_piecesOf_26 : decode cX8_piecesOf 26 = .ok (.goto 4, 3) := by decide +kernel
theorem dX8_piecesOf_29 : decode cX8_piecesOf 29 = .ok (.iconst 0, 1) := by decide +kernel
theorem dX8_piecesOf_30 : decode cX8_piecesOf 30 = .ok (.iadd, 1) := by decide +kernel
theorem dX8_piecesOf_31 : decode cX8_piecesOf 31 = .ok (.istore_n 2, 1) := by decide +kernel
theorem dX8_piecesOf_32 : decode cX8_piecesOf 32 = .ok (.iinc 3 1, 3) := by decide +kernel
theorem dX8_piecesOf_35 : decode cX8_piecesOf 35 = .ok (.goto (-31), 3) := by decide +kernel
theorem dX8_piecesOf_38 : decode cX8_piecesOf 38 = .ok (.iload_n 2, 1) := by decide +kernel
theorem dX8_piecesOf_39 : decode cX8_piecesOf 39 = .ok (.ireturn, 1) := by decide +kernel
theorem dX8_shift_0 : decode cX8_shift 0 = .ok (.iload_n 1, 1) := by decide +kernel
theorem dX8_shift_1 : decode cX8_shift 1 = .ok (.invokestatic 212, 3) := by decide +kernel
theorem dX8_shift_4 : decode cX8_shift 4 = .ok (.ifCond .eq 15, 3) := by decide +kernel
theorem dX8_shift_7 : decode cX8_shift 7 = .ok (.iload_n 2, 1) := by decide +kernel
theorem dX8_shift_8 : decode cX8_shift 8 = .ok (.invokestatic 212, 3) := by decide +kernel
theorem dX8_shift_11 : decode cX8_shift 11 = .ok (.ifCond .eq 8, 3) := by decide +kernel
theorem dX8_shift_14 : decode cX8_shift 14 = .ok (.iload_n 1, 1) := by decide +kernel
theorem dX8_shift_15 : decode cX8_shift 15 = .ok (.iload_n 2, 1) := by decide +kernel
theorem dX8_shift_16 : decode cX8_shift 16 = .ok (.if_icmp .ne 6, 3) := by decide +kernel
theorem dX8_shift_19 : decode cX8_shift 19 = .ok (.bipush (-2), 2) := by decide +kernel
theorem dX8_shift_21 : decode cX8_shift 21 = .ok (.ireturn, 1) := by decide +kernel
theorem dX8_shift_22 : decode cX8_shift 22 = .ok (.aload_n 0, 1) := by decide +kernel
theorem dX8_shift_23 : decode cX8_shift 23 = .ok (.iload_n 1, 1) := by decide +kernel
theorem dX8_shift_24 : decode cX8_shift 24 = .ok (.invokevirtual 222, 3) := by decide +kernel
theorem dX8_shift_27 : decode cX8_shift 27 = .ok (.istore_n 3, 1) := by decide +kernel
theorem dX8_shift_28 : decode cX8_shift 28 = .ok (.aload_n 0, 1) := by decide +kernel
theorem dX8_shift_29 : decode cX8_shift 29 = .ok (.iload_n 1, 1) := by decide +kernel
theorem dX8_shift_30 : decode cX8_shift 30 = .ok (.invokevirtual 119, 3) := by decide +kernel
theorem dX8_shift_33 : decode cX8_shift 33 = .ok (.i2l, 1) := by decide +kernel
theorem dX8_shift_34 : decode cX8_shift 34 = .ok (.aload_n 0, 1) := by decide +kernel
theorem dX8_shift_35 : decode cX8_shift 35 = .ok (.iload_n 2, 1) := by decide +kernel
theorem dX8_shift_36 : decode cX8_shift 36 = .ok (.invokevirtual 119, 3) := by decide +kernel
theorem dX8_shift_39 : decode cX8_shift 39 = .ok (.i2l, 1) := by decide +kernel
theorem dX8_shift_40 : decode cX8_shift 40 = .ok (.ladd, 1) := by decide +kernel
theorem dX8_shift_41 : decode cX8_shift 41 = .ok (.aload_n 0, 1) := by decide +kernel
theorem dX8_shift_42 : decode cX8_shift 42 = .ok (.getfield 7, 3) := by decide +kernel
theorem dX8_shift_45 : decode cX8_shift 45 = .ok (.bipush 34, 2) := by decide +kernel
theorem dX8_shift_47 : decode cX8_shift 47 = .ok (.iload_n 2, 1) := by decide +kernel
theorem dX8_shift_48 : decode cX8_shift 48 = .ok (.iadd, 1) := by decide +kernel
theorem dX8_shift_49 : decode cX8_shift 49 = .ok (.iaload, 1) := by decide +kernel
theorem dX8_shift_50 : decode cX8_shift 50 = .ok (.i2l, 1) := by decide +kernel
theorem dX8_shift_51 : decode cX8_shift 51 = .ok (.lcmp, 1) := by decide +kernel
theorem dX8_shift_52 : decode cX8_shift 52 = .ok (.ifCond .gt 16, 3) := by decide +kernel
theorem dX8_shift_55 : decode cX8_shift 55 = .ok (.aload_n 0, 1) := by decide +kernel
theorem dX8_shift_56 : decode cX8_shift 56 = .ok (.getfield 7, 3) := by decide +kernel
theorem dX8_shift_59 : decode cX8_shift 59 = .ok (.iconst 2, 1) := by decide +kernel
theorem dX8_shift_60 : decode cX8_shift 60 = .ok (.iaload, 1) := by decide +kernel
theorem dX8_shift_61 : decode cX8_shift 61 = .ok (.iload_n 3, 1) := by decide +kernel
theorem dX8_shift_62 : decode cX8_shift 62 = .ok (.iadd, 1) := by decide +kernel
theorem dX8_shift_63 : decode cX8_shift 63 = .ok (.bipush 100, 2) := by decide +kernel
theorem dX8_shift_65 : decode cX8_shift 65 = .ok (.if_icmp .le 6, 3) := by decide +kernel
theorem dX8_shift_68 : decode cX8_shift 68 = .ok (.bipush (-5), 2) := by decide +kernel
theorem dX8_shift_70 : decode cX8_shift 70 = .ok (.ireturn, 1) := by decide +kernel
theorem dX8_shift_71 : decode cX8_shift 71 = .ok (.aload_n 0, 1) := by decide +kernel
theorem dX8_shift_72 : decode cX8_shift 72 = .ok (.invokevirtual 209, 3) := by decide +kernel
theorem dX8_shift_75 : decode cX8_shift 75 = .ok (.iconst 0, 1) := by decide +kernel
theorem dX8_shift_76 : decode cX8_shift 76 = .ok (.istore 4, 2) := by decide +kernel
theorem dX8_shift_78 : decode cX8_shift 78 = .ok (.iconst 0, 1) := by decide +kernel
theorem dX8_shift_79 : decode cX8_shift 79 = .ok (.istore 5, 2) := by decide +kernel
theorem dX8_shift_81 : decode cX8_shift 81 = .ok (.iload 5, 2) := by decide +kernel
theorem dX8_shift_83 : decode cX8_shift 83 = .ok (.aload_n 0, 1) := by decide +kernel
theorem dX8_shift_84 : decode cX8_shift 84 = .ok (.getfield 7, 3) := by decide +kernel
theorem dX8_shift_87 : decode cX8_shift 87 = .ok (.iconst 1, 1) := by decide +kernel
theorem dX8_shift_88 : decode cX8_shift 88 = .ok (.iaload, 1) := by decide +kernel
theorem dX8_shift_89 : decode cX8_shift 89 = .ok (.if_icmp .ge 57, 3) := by decide +kernel
theorem dX8_shift_92 : decode cX8_shift 92 = .ok (.aload_n 0, 1) := by decide +kernel
theorem dX8_shift_93 : decode cX8_shift 93 = .ok (.iload 5, 2) := by decide +kernel
theorem dX8_shift_95 : decode cX8_shift 95 = .ok (.iconst 2, 1) := by decide +kernel
theorem dX8_shift_96 : decode cX8_shift 96 = .ok (.invokevirtual 71, 3) := by decide +kernel
theorem dX8_shift_99 : decode cX8_shift 99 = .ok (.iload_n 1, 1) := by decide +kernel
theorem dX8_shift_100 : decode cX8_shift 100 = .ok (.if_icmp .ne 40, 3) := by decide +kernel
theorem dX8_shift_103 : decode cX8_shift 103 = .ok (.aload_n 0, 1) := by decide +kernel
theorem dX8_shift_104 : decode cX8_shift 104 = .ok (.getfield 40, 3) := by decide +kernel
theorem dX8_shift_107 : decode cX8_shift 107 = .ok (.iconst 2, 1) := by decide +kernel
theorem dX8_shift_108 : decode cX8_shift 108 = .ok (.iload 4, 2) := by decide +kernel
theorem dX8_shift_110 : decode cX8_shift 110 = .ok (.imul, 1) := by decide +kernel
theorem dX8_shift_111 : decode cX8_shift 111 = .ok (.aload_n 0, 1) := by decide +kernel
theorem dX8_shift_112 : decode cX8_shift 112 = .ok (.iload 5, 2) := by decide +kernel
theorem dX8_shift_114 : decode cX8_shift 114 = .ok (.iconst 0, 1) := by decide +kernel
theorem dX8_shift_115 : decode cX8_shift 115 = .ok (.invokevirtual 71, 3) := by decide +kernel
theorem dX8_shift_118 : decode cX8_shift 118 = .ok (.iastore, 1) := by decide +kernel
theorem dX8_shift_119 : decode cX8_shift 119 = .ok (.aload_n 0, 1) := by decide +kernel
theorem dX8_shift_120 : decode cX8_shift 120 = .ok (.getfield 40, 3) := by decide +kernel
theorem dX8_shift_123 : decode cX8_shift 123 = .ok (.iconst 2, 1) := by decide +kernel
theorem dX8_shift_124 : decode cX8_shift 124 = .ok (.iload 4, 2) := by decide +kernel
theorem dX8_shift_126 : decode cX8_shift 126 = .ok (.imul, 1) := by decide +kernel
theorem dX8_shift_127 : decode cX8_shift 127 = .ok (.iconst 1, 1) := by decide +kernel
theorem dX8_shift_128 : decode cX8_shift 128 = .ok (.iadd, 1) := by decide +kernel
theorem dX8_shift_129 : decode cX8_shift 129 = .ok (.aload_n 0, 1) := by decide +kernel
theorem dX8_shift_130 : decode cX8_shift 130 = .ok (.iload 5, 2) := by decide +kernel
theorem dX8_shift_132 : decode cX8_shift 132 = .ok (.iconst 1, 1) := by decide +kernel
theorem dX8_shift_133 : decode cX8_shift 133 = .ok (.invokevirtual 71, 3) := by decide +kernel
theorem dX8_shift_136 : decode cX8_shift 136 = .ok (.iastore, 1) := by decide +kernel
theorem dX8_shift_137 : decode cX8_shift 137 = .ok (.iinc 4 1, 3) := by decide +kernel
theorem dX8_shift_140 : decode cX8_shift 140 = .ok (.iinc 5 1, 3) := by decide +kernel
theorem dX8_shift_143 : decode cX8_shift 143 = .ok (.goto (-62), 3) := by decide +kernel
theorem dX8_shift_146 : decode cX8_shift 146 = .ok (.iconst 0, 1) := by decide +kernel
theorem dX8_shift_147 : decode cX8_shift 147 = .ok (.istore 5, 2) := by decide +kernel
theorem dX8_shift_149 : decode cX8_shift 149 = .ok (.iload 5, 2) := by decide +kernel
theorem dX8_shift_151 : decode cX8_shift 151 = .ok (.iload_n 3, 1) := by decide +kernel
theorem dX8_shift_152 : decode cX8_shift 152 = .ok (.if_icmp .ge 59, 3) := by decide +kernel
theorem dX8_shift_155 : decode cX8_shift 155 = .ok (.aload_n 0, 1) := by decide +kernel
theorem dX8_shift_156 : decode cX8_shift 156 = .ok (.aload_n 0, 1) := by decide +kernel
theorem dX8_shift_157 : decode cX8_shift 157 = .ok (.getfield 40, 3) := by decide +kernel
theorem dX8_shift_160 : decode cX8_shift 160 = .ok (.iconst 2, 1) := by decide +kernel
theorem dX8_shift_161 : decode cX8_shift 161 = .ok (.iload 5, 2) := by decide +kernel
theorem dX8_shift_163 : decode cX8_shift 163 = .ok (.imul, 1) := by decide +kernel
theorem dX8_shift_164 : decode cX8_shift 164 = .ok (.iaload, 1) := by decide +kernel
theorem dX8_shift_165 : decode cX8_shift 165 = .ok (.aload_n 0, 1) := by decide +kernel
theorem dX8_shift_166 : decode cX8_shift 166 = .ok (.getfield 40, 3) := by decide +kernel
theorem dX8_shift_169 : decode cX8_shift 169 = .ok (.iconst 2, 1) := by decide +kernel
theorem dX8_shift_170 : decode cX8_shift 170 = .ok (.iload 5, 2) := by decide +kernel
theorem dX8_shift_172 : decode cX8_shift 172 = .ok (.imul, 1) := by decide +kernel
theorem dX8_shift_173 : decode cX8_shift 173 = .ok (.iconst 1, 1) := by decide +kernel
theorem dX8_shift_174 : decode cX8_shift 174 = .ok (.iadd, 1) := by decide +kernel
theorem dX8_shift_175 : decode cX8_shift 175 = .ok (.iaload, 1) := by decide +kernel
theorem dX8_shift_176 : decode cX8_shift 176 = .ok (.iload_n 2, 1) := by decide +kernel
theorem dX8_shift_177 : decode cX8_shift 177 = .ok (.invokevirtual 90, 3) := by decide +kernel
theorem dX8_shift_180 : decode cX8_shift 180 = .ok (.aload_n 0, 1) := by decide +kernel
theorem dX8_shift_181 : decode cX8_shift 181 = .ok (.aload_n 0, 1) := by decide +kernel
theorem dX8_shift_182 : decode cX8_shift 182 = .ok (.getfield 40, 3) := by decide +kernel
theorem dX8_shift_185 : decode cX8_shift 185 = .ok (.iconst 2, 1) := by decide +kernel
theorem dX8_shift_186 : decode cX8_shift 186 = .ok (.iload 5, 2) := by decide +kernel
theorem dX8_shift_188 : decode cX8_shift 188 = .ok (.imul, 1) := by decide +kernel
theorem dX8_shift_189 : decode cX8_shift 189 = .ok (.iaload, 1) := by decide +kernel
theorem dX8_shift_190 : decode cX8_shift 190 = .ok (.aload_n 0, 1) := by decide +kernel
theorem dX8_shift_191 : decode cX8_shift 191 = .ok (.getfield 40, 3) := by decide +kernel
theorem dX8_shift_194 : decode cX8_shift 194 = .ok (.iconst 2, 1) := by decide +kernel
theorem dX8_shift_195 : decode cX8_shift 195 = .ok (.iload 5, 2) := by decide +kernel
theorem dX8_shift_197 : decode cX8_shift 197 = .ok (.imul, 1) := by decide +kernel
theorem dX8_shift_198 : decode cX8_shift 198 = .ok (.iconst 1, 1) := by decide +kernel
theorem dX8_shift_199 : decode cX8_shift 199 = .ok (.iadd, 1) := by decide +kernel
theorem dX8_shift_200 : decode cX8_shift 200 = .ok (.iaload, 1) := by decide +kernel
theorem dX8_shift_201 : decode cX8_shift 201 = .ok (.iload_n 2, 1) := by decide +kernel
theorem dX8_shift_202 : decode cX8_shift 202 = .ok (.invokevirtual 219, 3) := by decide +kernel
theorem dX8_shift_205 : decode cX8_shift 205 = .ok (.iinc 5 1, 3) := by decide +kernel
theorem dX8_shift_208 : decode cX8_shift 208 = .ok (.goto (-59), 3) := by decide +kernel
theorem dX8_shift_211 : decode cX8_shift 211 = .ok (.iload_n 3, 1) := by decide +kernel
theorem dX8_shift_212 : decode cX8_shift 212 = .ok (.ireturn, 1) := by decide +kernel
theorem dX8_stow_0 : decode cX8_stow 0 = .ok (.aload_n 0, 1) := by decide +kernel
theorem dX8_stow_1 : decode cX8_stow 1 = .ok (.iload_n 1, 1) := by decide +kernel
theorem dX8_stow_2 : decode cX8_stow 2 = .ok (.invokevirtual 200, 3) := by decide +kernel
theorem dX8_stow_5 : decode cX8_stow 5 = .ok (.ifCond .ne 6, 3) := by decide +kernel
theorem dX8_stow_8 : decode cX8_stow 8 = .ok (.bipush (-2), 2) := by decide +kernel
theorem dX8_stow_10 : decode cX8_stow 10 = .ok (.ireturn, 1) := by decide +kernel
theorem dX8_stow_11 : decode cX8_stow 11 = .ok (.aload_n 0, 1) := by decide +kernel
theorem dX8_stow_12 : decode cX8_stow 12 = .ok (.iload_n 1, 1) := by decide +kernel
theorem dX8_stow_13 : decode cX8_stow 13 = .ok (.invokevirtual 225, 3) := by decide +kernel
theorem dX8_stow_16 : decode cX8_stow 16 = .ok (.aload_n 0, 1) := by decide +kernel
theorem dX8_stow_17 : decode cX8_stow 17 = .ok (.getfield 7, 3) := by decide +kernel
theorem dX8_stow_20 : decode cX8_stow 20 = .ok (.aload_n 0, 1) := by decide +kernel
theorem dX8_stow_21 : decode cX8_stow 21 = .ok (.getfield 43, 3) := by decide +kernel
theorem dX8_stow_24 : decode cX8_stow 24 = .ok (.invokestatic 228, 3) := by decide +kernel
theorem dX8_stow_27 : decode cX8_stow 27 = .ok (.aload_n 0, 1) := by decide +kernel
theorem dX8_stow_28 : decode cX8_stow 28 = .ok (.invokevirtual 232, 3) := by decide +kernel
theorem dX8_stow_31 : decode cX8_stow 31 = .ok (.istore_n 2, 1) := by decide +kernel
theorem dX8_stow_32 : decode cX8_stow 32 = .ok (.aload_n 0, 1) := by decide +kernel
theorem dX8_stow_33 : decode cX8_stow 33 = .ok (.getfield 43, 3) := by decide +kernel
theorem dX8_stow_36 : decode cX8_stow 36 = .ok (.aload_n 0, 1) := by decide +kernel
theorem dX8_stow_37 : decode cX8_stow 37 = .ok (.getfield 7, 3) := by decide +kernel
theorem dX8_stow_40 : decode cX8_stow 40 = .ok (.invokestatic 228, 3) := by decide +kernel
theorem dX8_stow_43 : decode cX8_stow 43 = .ok (.iload_n 2, 1) := by decide +kernel
theorem dX8_stow_44 : decode cX8_stow 44 = .ok (.ifCond .ne 6, 3) := by decide +kernel
theorem dX8_stow_47 : decode cX8_stow 47 = .ok (.bipush (-5), 2) := by decide +kernel
theorem dX8_stow_49 : decode cX8_stow 49 = .ok (.ireturn, 1) := by decide +kernel
theorem dX8_stow_50 : decode cX8_stow 50 = .ok (.aload_n 0, 1) := by decide +kernel
theorem dX8_stow_51 : decode cX8_stow 51 = .ok (.invokevirtual 209, 3) := by decide +kernel
theorem dX8_stow_54 : decode cX8_stow 54 = .ok (.aload_n 0, 1) := by decide +kernel
theorem dX8_stow_55 : decode cX8_stow 55 = .ok (.invokevirtual 232, 3) := by decide +kernel
theorem dX8_stow_58 : decode cX8_stow 58 = .ok (.pop, 1) := by decide +kernel
theorem dX8_stow_59 : decode cX8_stow 59 = .ok (.aload_n 0, 1) := by decide +kernel
theorem dX8_stow_60 : decode cX8_stow 60 = .ok (.getfield 116, 3) := by decide +kernel
theorem dX8_stow_63 : decode cX8_stow 63 = .ok (.ireturn, 1) := by decide +kernel
theorem dX8_copyRow_0 : decode cX8_copyRow 0 = .ok (.iconst 0, 1) := by decide +kernel
theorem dX8_copyRow_1 : decode cX8_copyRow 1 = .ok (.istore_n 2, 1) := by decide +kernel
theorem dX8_copyRow_2 : decode cX8_copyRow 2 = .ok (.iload_n 2, 1) := by decide +kernel
theorem dX8_copyRow_3 : decode cX8_copyRow 3 = .ok (.sipush 562, 3) := by decide +kernel
theorem dX8_copyRow_6 : decode cX8_copyRow 6 = .ok (.if_icmp .ge 15, 3) := by decide +kernel
theorem dX8_copyRow_9 : decode cX8_copyRow 9 = .ok (.aload_n 1, 1) := by decide +kernel
theorem dX8_copyRow_10 : decode cX8_copyRow 10 = .ok (.iload_n 2, 1) := by decide +kernel
theorem dX8_copyRow_11 : decode cX8_copyRow 11 = .ok (.aload_n 0, 1) := by decide +kernel
theorem dX8_copyRow_12 : decode cX8_copyRow 12 = .ok (.iload_n 2, 1) := by decide +kernel
theorem dX8_copyRow_13 : decode cX8_copyRow 13 = .ok (.iaload, 1) := by decide +kernel
theorem dX8_copyRow_14 : decode cX8_copyRow 14 = .ok (.iastore, 1) := by decide +kernel
theorem dX8_copyRow_15 : decode cX8_copyRow 15 = .ok (.iinc 2 1, 3) := by decide +kernel
theorem dX8_copyRow_18 : decode cX8_copyRow 18 = .ok (.goto (-16), 3) := by decide +kernel
theorem dX8_copyRow_21 : decode cX8_copyRow 21 = .ok (.return_, 1) := by decide +kernel
theorem dX8_stows_0 : decode cX8_stows 0 = .ok (.iconst 1, 1) := by decide +kernel
theorem dX8_stows_1 : decode cX8_stows 1 = .ok (.istore_n 1, 1) := by decide +kernel
theorem dX8_stows_2 : decode cX8_stows 2 = .ok (.iconst 0, 1) := by decide +kernel
theorem dX8_stows_3 : decode cX8_stows 3 = .ok (.istore_n 2, 1) := by decide +kernel
theorem dX8_stows_4 : decode cX8_stows 4 = .ok (.iload_n 2, 1) := by decide +kernel
theorem dX8_stows_5 : decode cX8_stows 5 = .ok (.aload_n 0, 1) := by decide +kernel
theorem dX8_stows_6 : decode cX8_stows 6 = .ok (.getfield 116, 3) := by decide +kernel
theorem dX8_stows_9 : decode cX8_stows 9 = .ok (.if_icmp .ge 82, 3) := by decide +kernel
theorem dX8_stows_12 : decode cX8_stows 12 = .ok (.iload_n 1, 1) := by decide +kernel
theorem dX8_stows_13 : decode cX8_stows 13 = .ok (.ifCond .eq 78, 3) := by decide +kernel
theorem dX8_stows_16 : decode cX8_stows 16 = .ok (.aload_n 0, 1) := by decide +kernel
theorem dX8_stows_17 : decode cX8_stows 17 = .ok (.aload_n 0, 1) := by decide +kernel
theorem dX8_stows_18 : decode cX8_stows 18 = .ok (.getfield 25, 3) := by decide +kernel
theorem dX8_stows_21 : decode cX8_stows 21 = .ok (.iconst 3, 1) := by decide +kernel
theorem dX8_stows_22 : decode cX8_stows 22 = .ok (.iload_n 2, 1) := by decide +kernel
theorem dX8_stows_23 : decode cX8_stows 23 = .ok (.imul, 1) := by decide +kernel
theorem dX8_stows_24 : decode cX8_stows 24 = .ok (.iaload, 1) := by decide +kernel
theorem dX8_stows_25 : decode cX8_stows 25 = .ok (.aload_n 0, 1) := by decide +kernel
theorem dX8_stows_26 : decode cX8_stows 26 = .ok (.getfield 25, 3) := by decide +kernel
theorem dX8_stows_29 : decode cX8_stows 29 = .ok (.iconst 3, 1) := by decide +kernel
theorem dX8_stows_30 : decode cX8_stows 30 = .ok (.iload_n 2, 1) := by decide +kernel
theorem dX8_stows_31 : decode cX8_stows 31 = .ok (.imul, 1) := by decide +kernel
theorem dX8_stows_32 : decode cX8_stows 32 = .ok (.iconst 1, 1) := by decide +kernel
theorem dX8_stows_33 : decode cX8_stows 33 = .ok (.iadd, 1) := by decide +kernel
theorem dX8_stows_34 : decode cX8_stows 34 = .ok (.iaload, 1) := by decide +kernel
theorem dX8_stows_35 : decode cX8_stows 35 = .ok (.aload_n 0, 1) := by decide +kernel
theorem dX8_stows_36 : decode cX8_stows 36 = .ok (.getfield 25, 3) := by decide +kernel
theorem dX8_stows_39 : decode cX8_stows 39 = .ok (.iconst 3, 1) := by decide +kernel
theorem dX8_stows_40 : decode cX8_stows 40 = .ok (.iload_n 2, 1) := by decide +kernel
theorem dX8_stows_41 : decode cX8_stows 41 = .ok (.imul, 1) := by decide +kernel
theorem dX8_stows_42 : decode cX8_stows 42 = .ok (.iconst 2, 1) := by decide +kernel
theorem dX8_stows_43 : decode cX8_stows 43 = .ok (.iadd, 1) := by decide +kernel
theorem dX8_stows_44 : decode cX8_stows 44 = .ok (.iaload, 1) := by decide +kernel
theorem dX8_stows_45 : decode cX8_stows 45 = .ok (.invokevirtual 215, 3) := by decide +kernel
theorem dX8_stows_48 : decode cX8_stows 48 = .ok (.istore_n 1, 1) := by decide +kernel
theorem dX8_stows_49 : decode cX8_stows 49 = .ok (.iload_n 1, 1) := by decide +kernel
theorem dX8_stows_50 : decode cX8_stows 50 = .ok (.ifCond .eq 35, 3) := by decide +kernel
theorem dX8_stows_53 : decode cX8_stows 53 = .ok (.aload_n 0, 1) := by decide +kernel
theorem dX8_stows_54 : decode cX8_stows 54 = .ok (.aload_n 0, 1) := by decide +kernel
theorem dX8_stows_55 : decode cX8_stows 55 = .ok (.getfield 25, 3) := by decide +kernel
theorem dX8_stows_58 : decode cX8_stows 58 = .ok (.iconst 3, 1) := by decide +kernel
theorem dX8_stows_59 : decode cX8_stows 59 = .ok (.iload_n 2, 1) := by decide +kernel
theorem dX8_stows_60 : decode cX8_stows 60 = .ok (.imul, 1) := by decide +kernel
theorem dX8_stows_61 : decode cX8_stows 61 = .ok (.iaload, 1) := by decide +kernel
theorem dX8_stows_62 : decode cX8_stows 62 = .ok (.aload_n 0, 1) := by decide +kernel
theorem dX8_stows_63 : decode cX8_stows 63 = .ok (.getfield 25, 3) := by decide +kernel
theorem dX8_stows_66 : decode cX8_stows 66 = .ok (.iconst 3, 1) := by decide +kernel
theorem dX8_stows_67 : decode cX8_stows 67 = .ok (.iload_n 2, 1) := by decide +kernel
theorem dX8_stows_68 : decode cX8_stows 68 = .ok (.imul, 1) := by decide +kernel
theorem dX8_stows_69 : decode cX8_stows 69 = .ok (.iconst 1, 1) := by decide +kernel
theorem dX8_stows_70 : decode cX8_stows 70 = .ok (.iadd, 1) := by decide +kernel
theorem dX8_stows_71 : decode cX8_stows 71 = .ok (.iaload, 1) := by decide +kernel
theorem dX8_stows_72 : decode cX8_stows 72 = .ok (.aload_n 0, 1) := by decide +kernel
theorem dX8_stows_73 : decode cX8_stows 73 = .ok (.getfield 25, 3) := by decide +kernel
theorem dX8_stows_76 : decode cX8_stows 76 = .ok (.iconst 3, 1) := by decide +kernel
theorem dX8_stows_77 : decode cX8_stows 77 = .ok (.iload_n 2, 1) := by decide +kernel
theorem dX8_stows_78 : decode cX8_stows 78 = .ok (.imul, 1) := by decide +kernel
theorem dX8_stows_79 : decode cX8_stows 79 = .ok (.iconst 2, 1) := by decide +kernel
theorem dX8_stows_80 : decode cX8_stows 80 = .ok (.iadd, 1) := by decide +kernel
theorem dX8_stows_81 : decode cX8_stows 81 = .ok (.iaload, 1) := by decide +kernel
theorem dX8_stows_82 : decode cX8_stows 82 = .ok (.invokevirtual 219, 3) := by decide +kernel
theorem dX8_stows_85 : decode cX8_stows 85 = .ok (.iinc 2 1, 3) := by decide +kernel
theorem dX8_stows_88 : decode cX8_stows 88 = .ok (.goto (-84), 3) := by decide +kernel
theorem dX8_stows_91 : decode cX8_stows 91 = .ok (.iload_n 1, 1) := by decide +kernel
theorem dX8_stows_92 : decode cX8_stows 92 = .ok (.ireturn, 1) := by decide +kernel
theorem dX8_pass_0 : decode cX8_pass 0 = .ok (.iload_n 1, 1) := by decide +kernel
theorem dX8_pass_1 : decode cX8_pass 1 = .ok (.i2l, 1) := by decide +kernel
theorem dX8_pass_2 : decode cX8_pass 2 = .ok (.lconst 1, 1) := by decide +kernel
theorem dX8_pass_3 : decode cX8_pass 3 = .ok (.ldc2_w 155, 3) := by decide +kernel
theorem dX8_pass_6 : decode cX8_pass 6 = .ok (.invokestatic 58, 3) := by decide +kernel
theorem dX8_pass_9 : decode cX8_pass 9 = .ok (.ifCond .ne 6, 3) := by decide +kernel
theorem dX8_pass_12 : decode cX8_pass 12 = .ok (.bipush (-3), 2) := by decide +kernel
theorem dX8_pass_14 : decode cX8_pass 14 = .ok (.ireturn, 1) := by decide +kernel
theorem dX8_pass_15 : decode cX8_pass 15 = .ok (.aload_n 0, 1) := by decide +kernel
theorem dX8_pass_16 : decode cX8_pass 16 = .ok (.invokevirtual 209, 3) := by decide +kernel
theorem dX8_pass_19 : decode cX8_pass 19 = .ok (.aload_n 0, 1) := by decide +kernel
theorem dX8_pass_20 : decode cX8_pass 20 = .ok (.getfield 7, 3) := by decide +kernel
theorem dX8_pass_23 : decode cX8_pass 23 = .ok (.iconst 3, 1) := by decide +kernel
theorem dX8_pass_24 : decode cX8_pass 24 = .ok (.dup2, 1) := by decide +kernel
theorem dX8_pass_25 : decode cX8_pass 25 = .ok (.iaload, 1) := by decide +kernel
theorem dX8_pass_26 : decode cX8_pass 26 = .ok (.iload_n 1, 1) := by decide +kernel
theorem dX8_pass_27 : decode cX8_pass 27 = .ok (.iadd, 1) := by decide +kernel
theorem dX8_pass_28 : decode cX8_pass 28 = .ok (.iastore, 1) := by decide +kernel
theorem dX8_pass_29 : decode cX8_pass 29 = .ok (.aload_n 0, 1) := by decide +kernel
theorem dX8_pass_30 : decode cX8_pass 30 = .ok (.getfield 7, 3) := by decide +kernel
theorem dX8_pass_33 : decode cX8_pass 33 = .ok (.iconst 3, 1) := by decide +kernel
theorem dX8_pass_34 : decode cX8_pass 34 = .ok (.iaload, 1) := by decide +kernel
theorem dX8_pass_35 : decode cX8_pass 35 = .ok (.ireturn, 1) := by decide +kernel
theorem dX8_undo_0 : decode cX8_undo 0 = .ok (.aload_n 0, 1) := by decide +kernel
theorem dX8_undo_1 : decode cX8_undo 1 = .ok (.getfield 197, 3) := by decide +kernel
theorem dX8_undo_4 : decode cX8_undo 4 = .ok (.ifCond .ne 6, 3) := by decide +kernel
theorem dX8_undo_7 : decode cX8_undo 7 = .ok (.bipush (-4), 2) := by decide +kernel
theorem dX8_undo_9 : decode cX8_undo 9 = .ok (.ireturn, 1) := by decide +kernel
theorem dX8_undo_10 : decode cX8_undo 10 = .ok (.aload_n 0, 1) := by decide +kernel
theorem dX8_undo_11 : decode cX8_undo 11 = .ok (.dup, 1) := by decide +kernel
theorem dX8_undo_12 : decode cX8_undo 12 = .ok (.getfield 197, 3) := by decide +kernel
theorem dX8_undo_15 : decode cX8_undo 15 = .ok (.iconst 1, 1) := by decide +kernel
theorem dX8_undo_16 : decode cX8_undo 16 = .ok (.isub, 1) := by decide +kernel
theorem dX8_undo_17 : decode cX8_undo 17 = .ok (.putfield 197, 3) := by decide +kernel
theorem dX8_undo_20 : decode cX8_undo 20 = .ok (.iconst 0, 1) := by decide +kernel
theorem dX8_undo_21 : decode cX8_undo 21 = .ok (.istore_n 1, 1) := by decide +kernel
theorem dX8_undo_22 : decode cX8_undo 22 = .ok (.iload_n 1, 1) := by decide +kernel
theorem dX8_undo_23 : decode cX8_undo 23 = .ok (.sipush 562, 3) := by decide +kernel
theorem dX8_undo_26 : decode cX8_undo 26 = .ok (.if_icmp .ge 34, 3) := by decide +kernel
theorem dX8_undo_29 : decode cX8_undo 29 = .ok (.aload_n 0, 1) := by decide +kernel
theorem dX8_undo_30 : decode cX8_undo 30 = .ok (.getfield 7, 3) := by decide +kernel
theorem dX8_undo_33 : decode cX8_undo 33 = .ok (.iload_n 1, 1) := by decide +kernel
theorem dX8_undo_34 : decode cX8_undo 34 = .ok (.aload_n 0, 1) := by decide +kernel
theorem dX8_undo_35 : decode cX8_undo 35 = .ok (.getfield 7, 3) := by decide +kernel
theorem dX8_undo_38 : decode cX8_undo 38 = .ok (.sipush 562, 3) := by decide +kernel
theorem dX8_undo_41 : decode cX8_undo 41 = .ok (.sipush 562, 3) := by decide +kernel
theorem dX8_undo_44 : decode cX8_undo 44 = .ok (.aload_n 0, 1) := by decide +kernel
theorem dX8_undo_45 : decode cX8_undo 45 = .ok (.getfield 197, 3) := by decide +kernel
theorem dX8_undo_48 : decode cX8_undo 48 = .ok (.imul, 1) := by decide +kernel
theorem dX8_undo_49 : decode cX8_undo 49 = .ok (.iadd, 1) := by decide +kernel
theorem dX8_undo_50 : decode cX8_undo 50 = .ok (.iload_n 1, 1) := by decide +kernel
theorem dX8_undo_51 : decode cX8_undo 51 = .ok (.iadd, 1) := by decide +kernel
theorem dX8_undo_52 : decode cX8_undo 52 = .ok (.iaload, 1) := by decide +kernel
theorem dX8_undo_53 : decode cX8_undo 53 = .ok (.iastore, 1) := by decide +kernel
theorem dX8_undo_54 : decode cX8_undo 54 = .ok (.iinc 1 1, 3) := by decide +kernel
theorem dX8_undo_57 : decode cX8_undo 57 = .ok (.goto (-35), 3) := by decide +kernel
theorem dX8_undo_60 : decode cX8_undo 60 = .ok (.aload_n 0, 1) := by decide +kernel
theorem dX8_undo_61 : decode cX8_undo 61 = .ok (.getfield 197, 3) := by decide +kernel
theorem dX8_undo_64 : decode cX8_undo 64 = .ok (.ireturn, 1) := by decide +kernel
theorem dX8_children_0 : decode cX8_children 0 = .ok (.iconst 0, 1) := by decide +kernel
theorem dX8_children_1 : decode cX8_children 1 = .ok (.istore_n 2, 1) := by decide +kernel
theorem dX8_children_2 : decode cX8_children 2 = .ok (.iconst 0, 1) := by decide +kernel
theorem dX8_children_3 : decode cX8_children 3 = .ok (.istore_n 3, 1) := by decide +kernel
theorem dX8_children_4 : decode cX8_children 4 = .ok (.iload_n 3, 1) := by decide +kernel
theorem dX8_children_5 : decode cX8_children 5 = .ok (.aload_n 0, 1) := by decide +kernel
theorem dX8_children_6 : decode cX8_children 6 = .ok (.getfield 7, 3) := by decide +kernel
theorem dX8_children_9 : decode cX8_children 9 = .ok (.iconst 0, 1) := by decide +kernel
theorem dX8_children_10 : decode cX8_children 10 = .ok (.iaload, 1) := by decide +kernel
theorem dX8_children_11 : decode cX8_children 11 = .ok (.if_icmp .ge 28, 3) := by decide +kernel
theorem dX8_children_14 : decode cX8_children 14 = .ok (.iload_n 2, 1) := by decide +kernel
theorem dX8_children_15 : decode cX8_children 15 = .ok (.aload_n 0, 1) := by decide +kernel
theorem dX8_children_16 : decode cX8_children 16 = .ok (.iload_n 3, 1) := by decide +kernel
theorem dX8_children_17 : decode cX8_children 17 = .ok (.invokevirtual 100, 3) := by decide +kernel
theorem dX8_children_20 : decode cX8_children 20 = .ok (.iload_n 1, 1) := by decide +kernel
theorem dX8_children_21 : decode cX8_children 21 = .ok (.if_icmp .ne 9, 3) := by decide +kernel
theorem dX8_children_24 : decode cX8_children 24 = .ok (.iconst 1, 1) := by decide +kernel
theorem dX8_children_25 : decode cX8_children 25 = .ok (.iload_n 3, 1) := by decide +kernel
theorem dX8_children_26 : decode cX8_children 26 = .ok (.ishl, 1) := by decide +kernel
theorem dX8_children_27 : decode cX8_children 27 = .ok (.goto 4, 3) := by decide +kernel
theorem dX8_children_30 : decode cX8_children 30 = .ok (.iconst 0, 1) := by decide +kernel
theorem dX8_children_31 : decode cX8_children 31 = .ok (.ior, 1) := by decide +kernel
theorem dX8_children_32 : decode cX8_children 32 = .ok (.istore_n 2, 1) := by decide +kernel
theorem dX8_children_33 : decode cX8_children 33 = .ok (.iinc 3 1, 3) := by decide +kernel
theorem dX8_children_36 : decode cX8_children 36 = .ok (.goto (-32), 3) := by decide +kernel
theorem dX8_children_39 : decode cX8_children 39 = .ok (.iload_n 2, 1) := by decide +kernel
theorem dX8_children_40 : decode cX8_children 40 = .ok (.ireturn, 1) := by decide +kernel
theorem dX8_boxesOf_0 : decode cX8_boxesOf 0 = .ok (.iconst 0, 1) := by decide +kernel
theorem dX8_boxesOf_1 : decode cX8_boxesOf 1 = .ok (.istore_n 2, 1) := by decide +kernel
theorem dX8_boxesOf_2 : decode cX8_boxesOf 2 = .ok (.iconst 0, 1) := by decide +kernel
theorem dX8_boxesOf_3 : decode cX8_boxesOf 3 = .ok (.istore_n 3, 1) := by decide +kernel
theorem dX8_boxesOf_4 : decode cX8_boxesOf 4 = .ok (.iload_n 3, 1) := by decide +kernel
theorem dX8_boxesOf_5 : decode cX8_boxesOf 5 = .ok (.bipush 8, 2) := by decide +kernel
theorem dX8_boxesOf_7 : decode cX8_boxesOf 7 = .ok (.if_icmp .ge 37, 3) := by decide +kernel
theorem dX8_boxesOf_10 : decode cX8_boxesOf 10 = .ok (.iload_n 2, 1) := by decide +kernel
theorem dX8_boxesOf_11 : decode cX8_boxesOf 11 = .ok (.aload_n 0, 1) := by decide +kernel
theorem dX8_boxesOf_12 : decode cX8_boxesOf 12 = .ok (.iload_n 3, 1) := by decide +kernel
theorem dX8_boxesOf_13 : decode cX8_boxesOf 13 = .ok (.aload_n 0, 1) := by decide +kernel
theorem dX8_boxesOf_14 : decode cX8_boxesOf 14 = .ok (.iload_n 1, 1) := by decide +kernel
theorem dX8_boxesOf_15 : decode cX8_boxesOf 15 = .ok (.invokevirtual 93, 3) := by decide +kernel
theorem dX8_boxesOf_18 : decode cX8_boxesOf 18 = .ok (.aload_n 0, 1) := by decide +kernel
theorem dX8_boxesOf_19 : decode cX8_boxesOf 19 = .ok (.iload_n 1, 1) := by decide +kernel
theorem dX8_boxesOf_20 : decode cX8_boxesOf 20 = .ok (.invokevirtual 97, 3) := by decide +kernel
theorem dX8_boxesOf_23 : decode cX8_boxesOf 23 = .ok (.invokevirtual 79, 3) := by decide +kernel
theorem dX8_boxesOf_26 : decode cX8_boxesOf 26 = .ok (.ifCond .le 9, 3) := by decide +kernel
theorem dX8_boxesOf_29 : decode cX8_boxesOf 29 = .ok (.iconst 1, 1) := by decide +kernel
theorem dX8_boxesOf_30 : decode cX8_boxesOf 30 = .ok (.iload_n 3, 1) := by decide +kernel
theorem dX8_boxesOf_31 : decode cX8_boxesOf 31 = .ok (.ishl, 1) := by decide +kernel
theorem dX8_boxesOf_32 : decode cX8_boxesOf 32 = .ok (.goto 4, 3) := by decide +kernel
theorem dX8_boxesOf_35 : decode cX8_boxesOf 35 = .ok (.iconst 0, 1) := by decide +kernel
theorem dX8_boxesOf_36 : decode cX8_boxesOf 36 = .ok (.ior, 1) := by decide +kernel
theorem dX8_boxesOf_37 : decode cX8_boxesOf 37 = .ok (.istore_n 2, 1) := by decide +kernel
theorem dX8_boxesOf_38 : decode cX8_boxesOf 38 = .ok (.iinc 3 1, 3) := by decide +kernel
theorem dX8_boxesOf_41 : decode cX8_boxesOf 41 = .ok (.goto (-37), 3) := by decide +kernel
theorem dX8_boxesOf_44 : decode cX8_boxesOf 44 = .ok (.iload_n 2, 1) := by decide +kernel
theorem dX8_boxesOf_45 : decode cX8_boxesOf 45 = .ok (.ireturn, 1) := by decide +kernel
theorem dX8_of_0 : decode cX8_of 0 = .ok (.aload_n 0, 1) := by decide +kernel
theorem dX8_of_1 : decode cX8_of 1 = .ok (.iload_n 1, 1) := by decide +kernel
theorem dX8_of_2 : decode cX8_of 2 = .ok (.invokevirtual 200, 3) := by decide +kernel
theorem dX8_of_5 : decode cX8_of 5 = .ok (.ifCond .ne 6, 3) := by decide +kernel
theorem dX8_of_8 : decode cX8_of 8 = .ok (.bipush (-2), 2) := by decide +kernel
theorem dX8_of_10 : decode cX8_of 10 = .ok (.ireturn, 1) := by decide +kernel
theorem dX8_of_11 : decode cX8_of 11 = .ok (.iload_n 2, 1) := by decide +kernel
theorem dX8_of_12 : decode cX8_of 12 = .ok (.tableswitch 125 0 7 #[48, 48, 48, 61, 77, 83, 89, 119], 48) := by decide +kernel
theorem dX8_of_60 : decode cX8_of 60 = .ok (.aload_n 0, 1) := by decide +kernel
theorem dX8_of_61 : decode cX8_of 61 = .ok (.getfield 7, 3) := by decide +kernel
theorem dX8_of_64 : decode cX8_of 64 = .ok (.iconst 4, 1) := by decide +kernel
theorem dX8_of_65 : decode cX8_of 65 = .ok (.iconst 3, 1) := by decide +kernel
theorem dX8_of_66 : decode cX8_of 66 = .ok (.iload_n 1, 1) := by decide +kernel
theorem dX8_of_67 : decode cX8_of 67 = .ok (.imul, 1) := by decide +kernel
theorem dX8_of_68 : decode cX8_of 68 = .ok (.iadd, 1) := by decide +kernel
theorem dX8_of_69 : decode cX8_of 69 = .ok (.iload_n 2, 1) := by decide +kernel
theorem dX8_of_70 : decode cX8_of 70 = .ok (.iadd, 1) := by decide +kernel
theorem dX8_of_71 : decode cX8_of 71 = .ok (.iaload, 1) := by decide +kernel
theorem dX8_of_72 : decode cX8_of 72 = .ok (.ireturn, 1) := by decide +kernel
theorem dX8_of_73 : decode cX8_of 73 = .ok (.aload_n 0, 1) := by decide +kernel
theorem dX8_of_74 : decode cX8_of 74 = .ok (.iload_n 1, 1) := by decide +kernel
theorem dX8_of_75 : decode cX8_of 75 = .ok (.aload_n 0, 1) := by decide +kernel
theorem dX8_of_76 : decode cX8_of 76 = .ok (.iload_n 1, 1) := by decide +kernel
theorem dX8_of_77 : decode cX8_of 77 = .ok (.invokevirtual 93, 3) := by decide +kernel
theorem dX8_of_80 : decode cX8_of 80 = .ok (.aload_n 0, 1) := by decide +kernel
theorem dX8_of_81 : decode cX8_of 81 = .ok (.iload_n 1, 1) := by decide +kernel
theorem dX8_of_82 : decode cX8_of 82 = .ok (.invokevirtual 97, 3) := by decide +kernel
theorem dX8_of_85 : decode cX8_of 85 = .ok (.invokevirtual 103, 3) := by decide +kernel
theorem dX8_of_88 : decode cX8_of 88 = .ok (.ireturn, 1) := by decide +kernel
theorem dX8_of_89 : decode cX8_of 89 = .ok (.aload_n 0, 1) := by decide +kernel
theorem dX8_of_90 : decode cX8_of 90 = .ok (.iload_n 1, 1) := by decide +kernel
theorem dX8_of_91 : decode cX8_of 91 = .ok (.invokevirtual 236, 3) := by decide +kernel
theorem dX8_of_94 : decode cX8_of 94 = .ok (.ireturn, 1) := by decide +kernel
theorem dX8_of_95 : decode cX8_of 95 = .ok (.aload_n 0, 1) := by decide +kernel
theorem dX8_of_96 : decode cX8_of 96 = .ok (.iload_n 1, 1) := by decide +kernel
theorem dX8_of_97 : decode cX8_of 97 = .ok (.invokevirtual 239, 3) := by decide +kernel
theorem dX8_of_100 : decode cX8_of 100 = .ok (.ireturn, 1) := by decide +kernel
theorem dX8_of_101 : decode cX8_of 101 = .ok (.aload_n 0, 1) := by decide +kernel
theorem dX8_of_102 : decode cX8_of 102 = .ok (.iload_n 1, 1) := by decide +kernel
theorem dX8_of_103 : decode cX8_of 103 = .ok (.invokevirtual 97, 3) := by decide +kernel
theorem dX8_of_106 : decode cX8_of 106 = .ok (.aload_n 0, 1) := by decide +kernel
theorem dX8_of_107 : decode cX8_of 107 = .ok (.iload_n 1, 1) := by decide +kernel
theorem dX8_of_108 : decode cX8_of 108 = .ok (.invokevirtual 93, 3) := by decide +kernel
theorem dX8_of_111 : decode cX8_of 111 = .ok (.isub, 1) := by decide +kernel
theorem dX8_of_112 : decode cX8_of 112 = .ok (.iconst 1, 1) := by decide +kernel
theorem dX8_of_113 : decode cX8_of 113 = .ok (.iadd, 1) := by decide +kernel
theorem dX8_of_114 : decode cX8_of 114 = .ok (.aload_n 0, 1) := by decide +kernel
theorem dX8_of_115 : decode cX8_of 115 = .ok (.iconst (-1), 1) := by decide +kernel
theorem dX8_of_116 : decode cX8_of 116 = .ok (.aload_n 0, 1) := by decide +kernel
theorem dX8_of_117 : decode cX8_of 117 = .ok (.iload_n 1, 1) := by decide +kernel
theorem dX8_of_118 : decode cX8_of 118 = .ok (.invokevirtual 93, 3) := by decide +kernel
theorem dX8_of_121 : decode cX8_of 121 = .ok (.aload_n 0, 1) := by decide +kernel
theorem dX8_of_122 : decode cX8_of 122 = .ok (.iload_n 1, 1) := by decide +kernel
theorem dX8_of_123 : decode cX8_of 123 = .ok (.invokevirtual 97, 3) := by decide +kernel
theorem dX8_of_126 : decode cX8_of 126 = .ok (.invokevirtual 79, 3) := by decide +kernel
theorem dX8_of_129 : decode cX8_of 129 = .ok (.isub, 1) := by decide +kernel
theorem dX8_of_130 : decode cX8_of 130 = .ok (.ireturn, 1) := by decide +kernel
theorem dX8_of_131 : decode cX8_of 131 = .ok (.aload_n 0, 1) := by decide +kernel
theorem dX8_of_132 : decode cX8_of 132 = .ok (.iload_n 1, 1) := by decide +kernel
theorem dX8_of_133 : decode cX8_of 133 = .ok (.invokevirtual 242, 3) := by decide +kernel
theorem dX8_of_136 : decode cX8_of 136 = .ok (.ireturn, 1) := by decide +kernel
theorem dX8_of_137 : decode cX8_of 137 = .ok (.bipush (-3), 2) := by decide +kernel
theorem dX8_of_139 : decode cX8_of 139 = .ok (.ireturn, 1) := by decide +kernel
theorem dX8_ownsIn_0 : decode cX8_ownsIn 0 = .ok (.iconst 0, 1) := by decide +kernel
theorem dX8_ownsIn_1 : decode cX8_ownsIn 1 = .ok (.istore_n 2, 1) := by decide +kernel
theorem dX8_ownsIn_2 : decode cX8_ownsIn 2 = .ok (.iconst 0, 1) := by decide +kernel
theorem dX8_ownsIn_3 : decode cX8_ownsIn 3 = .ok (.istore_n 3, 1) := by decide +kernel
theorem dX8_ownsIn_4 : decode cX8_ownsIn 4 = .ok (.iload_n 3, 1) := by decide +kernel
theorem dX8_ownsIn_5 : decode cX8_ownsIn 5 = .ok (.aload_n 0, 1) := by decide +kernel
theorem dX8_ownsIn_6 : decode cX8_ownsIn 6 = .ok (.getfield 7, 3) := by decide +kernel
theorem dX8_ownsIn_9 : decode cX8_ownsIn 9 = .ok (.iconst 0, 1) := by decide +kernel
theorem dX8_ownsIn_10 : decode cX8_ownsIn 10 = .ok (.iaload, 1) := by decide +kernel
theorem dX8_ownsIn_11 : decode cX8_ownsIn 11 = .ok (.if_icmp .ge 28, 3) := by decide +kernel
theorem dX8_ownsIn_14 : decode cX8_ownsIn 14 = .ok (.iload_n 2, 1) := by decide +kernel
theorem dX8_ownsIn_15 : decode cX8_ownsIn 15 = .ok (.aload_n 0, 1) := by decide +kernel
theorem dX8_ownsIn_16 : decode cX8_ownsIn 16 = .ok (.iload_n 3, 1) := by decide +kernel
theorem dX8_ownsIn_17 : decode cX8_ownsIn 17 = .ok (.iload_n 1, 1) := by decide +kernel
theorem dX8_ownsIn_18 : decode cX8_ownsIn 18 = .ok (.invokevirtual 245, 3) := by decide +kernel
theorem dX8_ownsIn_21 : decode cX8_ownsIn 21 = .ok (.ifCond .le 9, 3) := by decide +kernel
theorem dX8_ownsIn_24 : decode cX8_ownsIn 24 = .ok (.iconst 1, 1) := by decide +kernel
theorem dX8_ownsIn_25 : decode cX8_ownsIn 25 = .ok (.iload_n 3, 1) := by decide +kernel
theorem dX8_ownsIn_26 : decode cX8_ownsIn 26 = .ok (.ishl, 1) := by decide +kernel
theorem dX8_ownsIn_27 : decode cX8_ownsIn 27 = .ok (.goto 4, 3) := by decide +kernel
theorem dX8_ownsIn_30 : decode cX8_ownsIn 30 = .ok (.iconst 0, 1) := by decide +kernel
theorem dX8_ownsIn_31 : decode cX8_ownsIn 31 = .ok (.ior, 1) := by decide +kernel
theorem dX8_ownsIn_32 : decode cX8_ownsIn 32 = .ok (.istore_n 2, 1) := by decide +kernel
theorem dX8_ownsIn_33 : decode cX8_ownsIn 33 = .ok (.iinc 3 1, 3) := by decide +kernel
theorem dX8_ownsIn_36 : decode cX8_ownsIn 36 = .ok (.goto (-32), 3) := by decide +kernel
theorem dX8_ownsIn_39 : decode cX8_ownsIn 39 = .ok (.iload_n 2, 1) := by decide +kernel
theorem dX8_ownsIn_40 : decode cX8_ownsIn 40 = .ok (.ireturn, 1) := by decide +kernel
theorem dX8_endOf_0 : decode cX8_endOf 0 = .ok (.iconst (-1), 1) := by decide +kernel
theorem dX8_endOf_1 : decode cX8_endOf 1 = .ok (.istore_n 3, 1) := by decide +kernel
theorem dX8_endOf_2 : decode cX8_endOf 2 = .ok (.iconst 0, 1) := by decide +kernel
theorem dX8_endOf_3 : decode cX8_endOf 3 = .ok (.istore 4, 2) := by decide +kernel
theorem dX8_endOf_5 : decode cX8_endOf 5 = .ok (.iload 4, 2) := by decide +kernel
theorem dX8_endOf_7 : decode cX8_endOf 7 = .ok (.aload_n 0, 1) := by decide +kernel
theorem dX8_endOf_8 : decode cX8_endOf 8 = .ok (.getfield 7, 3) := by decide +kernel
theorem dX8_endOf_11 : decode cX8_endOf 11 = .ok (.iconst 1, 1) := by decide +kernel
theorem dX8_endOf_12 : decode cX8_endOf 12 = .ok (.iaload, 1) := by decide +kernel
theorem dX8_endOf_13 : decode cX8_endOf 13 = .ok (.if_icmp .ge 51, 3) := by decide +kernel
theorem dX8_endOf_16 : decode cX8_endOf 16 = .ok (.aload_n 0, 1) := by decide +kernel
theorem dX8_endOf_17 : decode cX8_endOf 17 = .ok (.iload 4, 2) := by decide +kernel
theorem dX8_endOf_19 : decode cX8_endOf 19 = .ok (.iconst 2, 1) := by decide +kernel
theorem dX8_endOf_20 : decode cX8_endOf 20 = .ok (.invokevirtual 71, 3) := by decide +kernel
theorem dX8_endOf_23 : decode cX8_endOf 23 = .ok (.iload_n 1, 1) := by decide +kernel
theorem dX8_endOf_24 : decode cX8_endOf 24 = .ok (.if_icmp .ne 34, 3) := by decide +kernel
theorem dX8_endOf_27 : decode cX8_endOf 27 = .ok (.iload_n 2, 1) := by decide +kernel
theorem dX8_endOf_28 : decode cX8_endOf 28 = .ok (.ifCond .eq 22, 3) := by decide +kernel
theorem dX8_endOf_31 : decode cX8_endOf 31 = .ok (.iload_n 3, 1) := by decide +kernel
theorem dX8_endOf_32 : decode cX8_endOf 32 = .ok (.iconst (-1), 1) := by decide +kernel
theorem dX8_endOf_33 : decode cX8_endOf 33 = .ok (.if_icmp .ne 13, 3) := by decide +kernel
theorem dX8_endOf_36 : decode cX8_endOf 36 = .ok (.aload_n 0, 1) := by decide +kernel
theorem dX8_endOf_37 : decode cX8_endOf 37 = .ok (.iload 4, 2) := by decide +kernel
theorem dX8_endOf_39 : decode cX8_endOf 39 = .ok (.iconst 0, 1) := by decide +kernel
theorem dX8_endOf_40 : decode cX8_endOf 40 = .ok (.invokevirtual 71, 3) := by decide +kernel
theorem dX8_endOf_43 : decode cX8_endOf 43 = .ok (.goto 14, 3) := by decide +kernel
theorem dX8_endOf_46 : decode cX8_endOf 46 = .ok (.iload_n 3, 1) := by decide +kernel
theorem dX8_endOf_47 : decode cX8_endOf 47 = .ok (.goto 10, 3) := by decide +kernel
theorem dX8_endOf_50 : decode cX8_endOf 50 = .ok (.aload_n 0, 1) := by decide +kernel
theorem dX8_endOf_51 : decode cX8_endOf 51 = .ok (.iload 4, 2) := by decide +kernel
theorem dX8_endOf_53 : decode cX8_endOf 53 = .ok (.iconst 1, 1) := by decide +kernel
theorem dX8_endOf_54 : decode cX8_endOf 54 = .ok (.invokevirtual 71, 3) := by decide +kernel
theorem dX8_endOf_57 : decode cX8_endOf 57 = .ok (.istore_n 3, 1) := by decide +kernel
theorem dX8_endOf_58 : decode cX8_endOf 58 = .ok (.iinc 4 1, 3) := by decide +kernel
theorem dX8_endOf_61 : decode cX8_endOf 61 = .ok (.goto (-56), 3) := by decide +kernel
theorem dX8_endOf_64 : decode cX8_endOf 64 = .ok (.iload_n 3, 1) := by decide +kernel
theorem dX8_endOf_65 : decode cX8_endOf 65 = .ok (.ireturn, 1) := by decide +kernel
theorem dX8_box_0 : decode cX8_box 0 = .ok (.iload_n 1, 1) := by decide +kernel
theorem dX8_box_1 : decode cX8_box 1 = .ok (.invokestatic 212, 3) := by decide +kernel
theorem dX8_box_4 : decode cX8_box 4 = .ok (.ifCond .ne 6, 3) := by decide +kernel
theorem dX8_box_7 : decode cX8_box 7 = .ok (.bipush (-2), 2) := by decide +kernel
theorem dX8_box_9 : decode cX8_box 9 = .ok (.ireturn, 1) := by decide +kernel
theorem dX8_box_10 : decode cX8_box 10 = .ok (.iload_n 2, 1) := by decide +kernel
theorem dX8_box_11 : decode cX8_box 11 = .ok (.tableswitch 81 0 5 #[37, 47, 53, 59, 65, 65], 37) := by decide +kernel
theorem dX8_box_48 : decode cX8_box 48 = .ok (.aload_n 0, 1) := by decide +kernel
theorem dX8_box_49 : decode cX8_box 49 = .ok (.getfield 7, 3) := by decide +kernel
theorem dX8_box_52 : decode cX8_box 52 = .ok (.bipush 34, 2) := by decide +kernel
theorem dX8_box_54 : decode cX8_box 54 = .ok (.iload_n 1, 1) := by decide +kernel
theorem dX8_box_55 : decode cX8_box 55 = .ok (.iadd, 1) := by decide +kernel
theorem dX8_box_56 : decode cX8_box 56 = .ok (.iaload, 1) := by decide +kernel
theorem dX8_box_57 : decode cX8_box 57 = .ok (.ireturn, 1) := by decide +kernel
theorem dX8_box_58 : decode cX8_box 58 = .ok (.aload_n 0, 1) := by decide +kernel
theorem dX8_box_59 : decode cX8_box 59 = .ok (.iload_n 1, 1) := by decide +kernel
theorem dX8_box_60 : decode cX8_box 60 = .ok (.invokevirtual 119, 3) := by decide +kernel
theorem dX8_box_63 : decode cX8_box 63 = .ok (.ireturn, 1) := by decide +kernel
theorem dX8_box_64 : decode cX8_box 64 = .ok (.aload_n 0, 1) := by decide +kernel
theorem dX8_box_65 : decode cX8_box 65 = .ok (.iload_n 1, 1) := by decide +kernel
theorem dX8_box_66 : decode cX8_box 66 = .ok (.invokevirtual 222, 3) := by decide +kernel
theorem dX8_box_69 : decode cX8_box 69 = .ok (.ireturn, 1) := by decide +kernel
theorem dX8_box_70 : decode cX8_box 70 = .ok (.aload_n 0, 1) := by decide +kernel
theorem dX8_box_71 : decode cX8_box 71 = .ok (.iload_n 1, 1) := by decide +kernel
theorem dX8_box_72 : decode cX8_box 72 = .ok (.invokevirtual 248, 3) := by decide +kernel
theorem dX8_box_75 : decode cX8_box 75 = .ok (.ireturn, 1) := by decide +kernel
theorem dX8_box_76 : decode cX8_box 76 = .ok (.aload_n 0, 1) := by decide +kernel
theorem dX8_box_77 : decode cX8_box 77 = .ok (.iload_n 1, 1) := by decide +kernel
theorem dX8_box_78 : decode cX8_box 78 = .ok (.iload_n 2, 1) := by decide +kernel
theorem dX8_box_79 : decode cX8_box 79 = .ok (.iconst 4, 1) := by decide +kernel
theorem dX8_box_80 : decode cX8_box 80 = .ok (.if_icmp .ne 7, 3) := by decide +kernel
theorem dX8_box_83 : decode cX8_box 83 = .ok (.iconst 1, 1) := by decide +kernel
theorem dX8_box_84 : decode cX8_box 84 = .ok (.goto 4, 3) := by decide +kernel
theorem dX8_box_87 : decode cX8_box 87 = .ok (.iconst 0, 1) := by decide +kernel
theorem dX8_box_88 : decode cX8_box 88 = .ok (.invokevirtual 251, 3) := by decide +kernel
theorem dX8_box_91 : decode cX8_box 91 = .ok (.ireturn, 1) := by decide +kernel
theorem dX8_box_92 : decode cX8_box 92 = .ok (.bipush (-3), 2) := by decide +kernel
theorem dX8_box_94 : decode cX8_box 94 = .ok (.ireturn, 1) := by decide +kernel
theorem dX8_piece_0 : decode cX8_piece 0 = .ok (.iload_n 1, 1) := by decide +kernel
theorem dX8_piece_1 : decode cX8_piece 1 = .ok (.i2l, 1) := by decide +kernel
theorem dX8_piece_2 : decode cX8_piece 2 = .ok (.lconst 0, 1) := by decide +kernel
theorem dX8_piece_3 : decode cX8_piece 3 = .ok (.aload_n 0, 1) := by decide +kernel
theorem dX8_piece_4 : decode cX8_piece 4 = .ok (.getfield 7, 3) := by decide +kernel
theorem dX8_piece_7 : decode cX8_piece 7 = .ok (.iconst 1, 1) := by decide +kernel
theorem dX8_piece_8 : decode cX8_piece 8 = .ok (.iaload, 1) := by decide +kernel
