theorem dX8_moveBy_1 : decode cX8_moveBy 1 = .ok (.iload_n 1, 1) := by decide +kernel
theorem dX8_moveBy_2 : decode cX8_moveBy 2 = .ok (.i2l, 1) := by decide +kernel
theorem dX8_moveBy_3 : decode cX8_moveBy 3 = .ok (.ldc2_w 210, 3) := by decide +kernel
theorem dX8_moveBy_6 : decode cX8_moveBy 6 = .ok (.ldc2_w 212, 3) := by decide +kernel
theorem dX8_moveBy_9 : decode cX8_moveBy 9 = .ok (.invokestatic 79, 3) := by decide +kernel
theorem dX8_moveBy_12 : decode cX8_moveBy 12 = .ok (.ifCond .eq 7, 3) := by decide +kernel
theorem dX8_moveBy_15 : decode cX8_moveBy 15 = .ok (.iconst 0, 1) := by decide +kernel
theorem dX8_moveBy_16 : decode cX8_moveBy 16 = .ok (.goto 4, 3) := by decide +kernel
theorem dX8_moveBy_19 : decode cX8_moveBy 19 = .ok (.iconst 1, 1) := by decide +kernel
theorem dX8_moveBy_20 : decode cX8_moveBy 20 = .ok (.invokevirtual 150, 3) := by decide +kernel
theorem dX8_moveBy_23 : decode cX8_moveBy 23 = .ok (.ifCond .eq 5, 3) := by decide +kernel
theorem dX8_moveBy_26 : decode cX8_moveBy 26 = .ok (.iconst 0, 1) := by decide +kernel
theorem dX8_moveBy_27 : decode cX8_moveBy 27 = .ok (.ireturn, 1) := by decide +kernel
theorem dX8_moveBy_28 : decode cX8_moveBy 28 = .ok (.aload_n 0, 1) := by decide +kernel
theorem dX8_moveBy_29 : decode cX8_moveBy 29 = .ok (.getfield 13, 3) := by decide +kernel
theorem dX8_moveBy_32 : decode cX8_moveBy 32 = .ok (.iload_n 1, 1) := by decide +kernel
theorem dX8_moveBy_33 : decode cX8_moveBy 33 = .ok (.invokestatic 214, 3) := by decide +kernel
theorem dX8_moveBy_36 : decode cX8_moveBy 36 = .ok (.aload_n 0, 1) := by decide +kernel
theorem dX8_moveBy_37 : decode cX8_moveBy 37 = .ok (.getfield 13, 3) := by decide +kernel
theorem dX8_moveBy_40 : decode cX8_moveBy 40 = .ok (.sipush 181, 3) := by decide +kernel
theorem dX8_moveBy_43 : decode cX8_moveBy 43 = .ok (.iaload, 1) := by decide +kernel
theorem dX8_moveBy_44 : decode cX8_moveBy 44 = .ok (.ireturn, 1) := by decide +kernel
theorem dX8_goTo_0 : decode cX8_goTo 0 = .ok (.aload_n 0, 1) := by decide +kernel
theorem dX8_goTo_1 : decode cX8_goTo 1 = .ok (.getfield 13, 3) := by decide +kernel
theorem dX8_goTo_4 : decode cX8_goTo 4 = .ok (.sipush 181, 3) := by decide +kernel
theorem dX8_goTo_7 : decode cX8_goTo 7 = .ok (.iload_n 1, 1) := by decide +kernel
theorem dX8_goTo_8 : decode cX8_goTo 8 = .ok (.iastore, 1) := by decide +kernel
theorem dX8_goTo_9 : decode cX8_goTo 9 = .ok (.aload_n 0, 1) := by decide +kernel
theorem dX8_goTo_10 : decode cX8_goTo 10 = .ok (.getfield 13, 3) := by decide +kernel
theorem dX8_goTo_13 : decode cX8_goTo 13 = .ok (.sipush 182, 3) := by decide +kernel
theorem dX8_goTo_16 : decode cX8_goTo 16 = .ok (.bipush (-9), 2) := by decide +kernel
theorem dX8_goTo_18 : decode cX8_goTo 18 = .ok (.iastore, 1) := by decide +kernel
theorem dX8_goTo_19 : decode cX8_goTo 19 = .ok (.iload_n 1, 1) := by decide +kernel
theorem dX8_goTo_20 : decode cX8_goTo 20 = .ok (.ireturn, 1) := by decide +kernel
theorem dX8_moveVertically_0 : decode cX8_moveVertically 0 = .ok (.aload_n 0, 1) := by decide +kernel
theorem dX8_moveVertically_1 : decode cX8_moveVertically 1 = .ok (.iconst 0, 1) := by decide +kernel
theorem dX8_moveVertically_2 : decode cX8_moveVertically 2 = .ok (.putfield 71, 3) := by decide +kernel
theorem dX8_moveVertically_5 : decode cX8_moveVertically 5 = .ok (.aload_n 0, 1) := by decide +kernel
theorem dX8_moveVertically_6 : decode cX8_moveVertically 6 = .ok (.getfield 13, 3) := by decide +kernel
theorem dX8_moveVertically_9 : decode cX8_moveVertically 9 = .ok (.sipush 181, 3) := by decide +kernel
theorem dX8_moveVertically_12 : decode cX8_moveVertically 12 = .ok (.iaload, 1) := by decide +kernel
theorem dX8_moveVertically_13 : decode cX8_moveVertically 13 = .ok (.istore_n 2, 1) := by decide +kernel
theorem dX8_moveVertically_14 : decode cX8_moveVertically 14 = .ok (.iload_n 2, 1) := by decide +kernel
theorem dX8_moveVertically_15 : decode cX8_moveVertically 15 = .ok (.istore_n 3, 1) := by decide +kernel
theorem dX8_moveVertically_16 : decode cX8_moveVertically 16 = .ok (.aload_n 0, 1) := by decide +kernel
theorem dX8_moveVertically_17 : decode cX8_moveVertically 17 = .ok (.getfield 13, 3) := by decide +kernel
theorem dX8_moveVertically_20 : decode cX8_moveVertically 20 = .ok (.iload_n 3, 1) := by decide +kernel
theorem dX8_moveVertically_21 : decode cX8_moveVertically 21 = .ok (.invokestatic 136, 3) := by decide +kernel
theorem dX8_moveVertically_24 : decode cX8_moveVertically 24 = .ok (.istore 4, 2) := by decide +kernel
theorem dX8_moveVertically_26 : decode cX8_moveVertically 26 = .ok (.iload 4, 2) := by decide +kernel
theorem dX8_moveVertically_28 : decode cX8_moveVertically 28 = .ok (.ifCond .le 178, 3) := by decide +kernel
theorem dX8_moveVertically_31 : decode cX8_moveVertically 31 = .ok (.aload_n 0, 1) := by decide +kernel
theorem dX8_moveVertically_32 : decode cX8_moveVertically 32 = .ok (.getfield 13, 3) := by decide +kernel
theorem dX8_moveVertically_35 : decode cX8_moveVertically 35 = .ok (.iload 4, 2) := by decide +kernel
theorem dX8_moveVertically_37 : decode cX8_moveVertically 37 = .ok (.iconst 1, 1) := by decide +kernel
theorem dX8_moveVertically_38 : decode cX8_moveVertically 38 = .ok (.isub, 1) := by decide +kernel
theorem dX8_moveVertically_39 : decode cX8_moveVertically 39 = .ok (.iaload, 1) := by decide +kernel
theorem dX8_moveVertically_40 : decode cX8_moveVertically 40 = .ok (.bipush (-10), 2) := by decide +kernel
theorem dX8_moveVertically_42 : decode cX8_moveVertically 42 = .ok (.if_icmp .ne 7, 3) := by decide +kernel
theorem dX8_moveVertically_45 : decode cX8_moveVertically 45 = .ok (.iconst 1, 1) := by decide +kernel
theorem dX8_moveVertically_46 : decode cX8_moveVertically 46 = .ok (.goto 4, 3) := by decide +kernel
theorem dX8_moveVertically_49 : decode cX8_moveVertically 49 = .ok (.iconst 0, 1) := by decide +kernel
theorem dX8_moveVertically_50 : decode cX8_moveVertically 50 = .ok (.istore 5, 2) := by decide +kernel
theorem dX8_moveVertically_52 : decode cX8_moveVertically 52 = .ok (.iload 5, 2) := by decide +kernel
theorem dX8_moveVertically_54 : decode cX8_moveVertically 54 = .ok (.ifCond .eq 17, 3) := by decide +kernel
theorem dX8_moveVertically_57 : decode cX8_moveVertically 57 = .ok (.aload_n 0, 1) := by decide +kernel
theorem dX8_moveVertically_58 : decode cX8_moveVertically 58 = .ok (.getfield 13, 3) := by decide +kernel
theorem dX8_moveVertically_61 : decode cX8_moveVertically 61 = .ok (.iload 4, 2) := by decide +kernel
theorem dX8_moveVertically_63 : decode cX8_moveVertically 63 = .ok (.iconst 1, 1) := by decide +kernel
theorem dX8_moveVertically_64 : decode cX8_moveVertically 64 = .ok (.isub, 1) := by decide +kernel
theorem dX8_moveVertically_65 : decode cX8_moveVertically 65 = .ok (.invokestatic 100, 3) := by decide +kernel
theorem dX8_moveVertically_68 : decode cX8_moveVertically 68 = .ok (.goto 7, 3) := by decide +kernel
theorem dX8_moveVertically_71 : decode cX8_moveVertically 71 = .ok (.iload 4, 2) := by decide +kernel
theorem dX8_moveVertically_73 : decode cX8_moveVertically 73 = .ok (.iconst 1, 1) := by decide +kernel
theorem dX8_moveVertically_74 : decode cX8_moveVertically 74 = .ok (.isub, 1) := by decide +kernel
theorem dX8_moveVertically_75 : decode cX8_moveVertically 75 = .ok (.istore 6, 2) := by decide +kernel
theorem dX8_moveVertically_77 : decode cX8_moveVertically 77 = .ok (.iload_n 1, 1) := by decide +kernel
theorem dX8_moveVertically_78 : decode cX8_moveVertically 78 = .ok (.ifCond .eq 11, 3) := by decide +kernel
theorem dX8_moveVertically_81 : decode cX8_moveVertically 81 = .ok (.iload 5, 2) := by decide +kernel
theorem dX8_moveVertically_83 : decode cX8_moveVertically 83 = .ok (.ifCond .eq 107, 3) := by decide +kernel
theorem dX8_moveVertically_86 : decode cX8_moveVertically 86 = .ok (.goto 16, 3) := by decide +kernel
theorem dX8_moveVertically_89 : decode cX8_moveVertically 89 = .ok (.aload_n 0, 1) := by decide +kernel
theorem dX8_moveVertically_90 : decode cX8_moveVertically 90 = .ok (.getfield 13, 3) := by decide +kernel
theorem dX8_moveVertically_93 : decode cX8_moveVertically 93 = .ok (.iload 4, 2) := by decide +kernel
theorem dX8_moveVertically_95 : decode cX8_moveVertically 95 = .ok (.iconst 1, 1) := by decide +kernel
theorem dX8_moveVertically_96 : decode cX8_moveVertically 96 = .ok (.isub, 1) := by decide +kernel
theorem dX8_moveVertically_97 : decode cX8_moveVertically 97 = .ok (.iaload, 1) := by decide +kernel
theorem dX8_moveVertically_98 : decode cX8_moveVertically 98 = .ok (.iconst (-1), 1) := by decide +kernel
theorem dX8_moveVertically_99 : decode cX8_moveVertically 99 = .ok (.if_icmp .ne 91, 3) := by decide +kernel
theorem dX8_moveVertically_102 : decode cX8_moveVertically 102 = .ok (.aload_n 0, 1) := by decide +kernel
theorem dX8_moveVertically_103 : decode cX8_moveVertically 103 = .ok (.getfield 13, 3) := by decide +kernel
theorem dX8_moveVertically_106 : decode cX8_moveVertically 106 = .ok (.iload 4, 2) := by decide +kernel
theorem dX8_moveVertically_108 : decode cX8_moveVertically 108 = .ok (.iload_n 3, 1) := by decide +kernel
theorem dX8_moveVertically_109 : decode cX8_moveVertically 109 = .ok (.invokestatic 188, 3) := by decide +kernel
theorem dX8_moveVertically_112 : decode cX8_moveVertically 112 = .ok (.istore 7, 2) := by decide +kernel
theorem dX8_moveVertically_114 : decode cX8_moveVertically 114 = .ok (.iload_n 1, 1) := by decide +kernel
theorem dX8_moveVertically_115 : decode cX8_moveVertically 115 = .ok (.ifCond .eq 10, 3) := by decide +kernel
theorem dX8_moveVertically_118 : decode cX8_moveVertically 118 = .ok (.iload 6, 2) := by decide +kernel
theorem dX8_moveVertically_120 : decode cX8_moveVertically 120 = .ok (.iconst 1, 1) := by decide +kernel
theorem dX8_moveVertically_121 : decode cX8_moveVertically 121 = .ok (.iadd, 1) := by decide +kernel
theorem dX8_moveVertically_122 : decode cX8_moveVertically 122 = .ok (.goto 14, 3) := by decide +kernel
theorem dX8_moveVertically_125 : decode cX8_moveVertically 125 = .ok (.aload_n 0, 1) := by decide +kernel
theorem dX8_moveVertically_126 : decode cX8_moveVertically 126 = .ok (.getfield 13, 3) := by decide +kernel
theorem dX8_moveVertically_129 : decode cX8_moveVertically 129 = .ok (.iload 4, 2) := by decide +kernel
theorem dX8_moveVertically_131 : decode cX8_moveVertically 131 = .ok (.invokestatic 142, 3) := by decide +kernel
theorem dX8_moveVertically_134 : decode cX8_moveVertically 134 = .ok (.iconst 1, 1) := by decide +kernel
theorem dX8_moveVertically_135 : decode cX8_moveVertically 135 = .ok (.iadd, 1) := by decide +kernel
theorem dX8_moveVertically_136 : decode cX8_moveVertically 136 = .ok (.istore 8, 2) := by decide +kernel
theorem dX8_moveVertically_138 : decode cX8_moveVertically 138 = .ok (.aload_n 0, 1) := by decide +kernel
theorem dX8_moveVertically_139 : decode cX8_moveVertically 139 = .ok (.getfield 13, 3) := by decide +kernel
theorem dX8_moveVertically_142 : decode cX8_moveVertically 142 = .ok (.iload 8, 2) := by decide +kernel
theorem dX8_moveVertically_144 : decode cX8_moveVertically 144 = .ok (.invokestatic 142, 3) := by decide +kernel
theorem dX8_moveVertically_147 : decode cX8_moveVertically 147 = .ok (.istore 9, 2) := by decide +kernel
theorem dX8_moveVertically_149 : decode cX8_moveVertically 149 = .ok (.iconst 0, 1) := by decide +kernel
theorem dX8_moveVertically_150 : decode cX8_moveVertically 150 = .ok (.istore 10, 2) := by decide +kernel
theorem dX8_moveVertically_152 : decode cX8_moveVertically 152 = .ok (.iload 10, 2) := by decide +kernel
theorem dX8_moveVertically_154 : decode cX8_moveVertically 154 = .ok (.iload 7, 2) := by decide +kernel
theorem dX8_moveVertically_156 : decode cX8_moveVertically 156 = .ok (.if_icmp .ge 27, 3) := by decide +kernel
theorem dX8_moveVertically_159 : decode cX8_moveVertically 159 = .ok (.iload 8, 2) := by decide +kernel
theorem dX8_moveVertically_161 : decode cX8_moveVertically 161 = .ok (.iload 9, 2) := by decide +kernel
theorem dX8_moveVertically_163 : decode cX8_moveVertically 163 = .ok (.if_icmp .ge 20, 3) := by decide +kernel
theorem dX8_moveVertically_166 : decode cX8_moveVertically 166 = .ok (.aload_n 0, 1) := by decide +kernel
theorem dX8_moveVertically_167 : decode cX8_moveVertically 167 = .ok (.getfield 13, 3) := by decide +kernel
theorem dX8_moveVertically_170 : decode cX8_moveVertically 170 = .ok (.iload 8, 2) := by decide +kernel
theorem dX8_moveVertically_172 : decode cX8_moveVertically 172 = .ok (.invokestatic 107, 3) := by decide +kernel
theorem dX8_moveVertically_175 : decode cX8_moveVertically 175 = .ok (.istore 8, 2) := by decide +kernel
theorem dX8_moveVertically_177 : decode cX8_moveVertically 177 = .ok (.iinc 10 1, 3) := by decide +kernel
theorem dX8_moveVertically_180 : decode cX8_moveVertically 180 = .ok (.goto (-28), 3) := by decide +kernel
theorem dX8_moveVertically_183 : decode cX8_moveVertically 183 = .ok (.aload_n 0, 1) := by decide +kernel
theorem dX8_moveVertically_184 : decode cX8_moveVertically 184 = .ok (.iload 8, 2) := by decide +kernel
theorem dX8_moveVertically_186 : decode cX8_moveVertically 186 = .ok (.invokevirtual 218, 3) := by decide +kernel
theorem dX8_moveVertically_189 : decode cX8_moveVertically 189 = .ok (.ireturn, 1) := by decide +kernel
theorem dX8_moveVertically_190 : decode cX8_moveVertically 190 = .ok (.iload 6, 2) := by decide +kernel
theorem dX8_moveVertically_192 : decode cX8_moveVertically 192 = .ok (.istore_n 3, 1) := by decide +kernel
theorem dX8_moveVertically_193 : decode cX8_moveVertically 193 = .ok (.aload_n 0, 1) := by decide +kernel
theorem dX8_moveVertically_194 : decode cX8_moveVertically 194 = .ok (.getfield 13, 3) := by decide +kernel
theorem dX8_moveVertically_197 : decode cX8_moveVertically 197 = .ok (.iload_n 3, 1) := by decide +kernel
theorem dX8_moveVertically_198 : decode cX8_moveVertically 198 = .ok (.invokestatic 136, 3) := by decide +kernel
theorem dX8_moveVertically_201 : decode cX8_moveVertically 201 = .ok (.istore 4, 2) := by decide +kernel
theorem dX8_moveVertically_203 : decode cX8_moveVertically 203 = .ok (.goto (-177), 3) := by decide +kernel
theorem dX8_moveVertically_206 : decode cX8_moveVertically 206 = .ok (.iload_n 2, 1) := by decide +kernel
theorem dX8_moveVertically_207 : decode cX8_moveVertically 207 = .ok (.aload_n 0, 1) := by decide +kernel
theorem dX8_moveVertically_208 : decode cX8_moveVertically 208 = .ok (.getfield 13, 3) := by decide +kernel
theorem dX8_moveVertically_211 : decode cX8_moveVertically 211 = .ok (.sipush 180, 3) := by decide +kernel
theorem dX8_moveVertically_214 : decode cX8_moveVertically 214 = .ok (.iaload, 1) := by decide +kernel
theorem dX8_moveVertically_215 : decode cX8_moveVertically 215 = .ok (.if_icmp .ge 31, 3) := by decide +kernel
theorem dX8_moveVertically_218 : decode cX8_moveVertically 218 = .ok (.aload_n 0, 1) := by decide +kernel
theorem dX8_moveVertically_219 : decode cX8_moveVertically 219 = .ok (.getfield 13, 3) := by decide +kernel
theorem dX8_moveVertically_222 : decode cX8_moveVertically 222 = .ok (.iload_n 2, 1) := by decide +kernel
theorem dX8_moveVertically_223 : decode cX8_moveVertically 223 = .ok (.iaload, 1) := by decide +kernel
theorem dX8_moveVertically_224 : decode cX8_moveVertically 224 = .ok (.iload_n 1, 1) := by decide +kernel
theorem dX8_moveVertically_225 : decode cX8_moveVertically 225 = .ok (.ifCond .eq 8, 3) := by decide +kernel
theorem dX8_moveVertically_228 : decode cX8_moveVertically 228 = .ok (.bipush (-2), 2) := by decide +kernel
theorem dX8_moveVertically_230 : decode cX8_moveVertically 230 = .ok (.goto 5, 3) := by decide +kernel
theorem dX8_moveVertically_233 : decode cX8_moveVertically 233 = .ok (.bipush (-3), 2) := by decide +kernel
theorem dX8_moveVertically_235 : decode cX8_moveVertically 235 = .ok (.if_icmp .ne 11, 3) := by decide +kernel
theorem dX8_moveVertically_238 : decode cX8_moveVertically 238 = .ok (.aload_n 0, 1) := by decide +kernel
theorem dX8_moveVertically_239 : decode cX8_moveVertically 239 = .ok (.iload_n 2, 1) := by decide +kernel
theorem dX8_moveVertically_240 : decode cX8_moveVertically 240 = .ok (.iconst 1, 1) := by decide +kernel
theorem dX8_moveVertically_241 : decode cX8_moveVertically 241 = .ok (.iadd, 1) := by decide +kernel
theorem dX8_moveVertically_242 : decode cX8_moveVertically 242 = .ok (.invokevirtual 218, 3) := by decide +kernel
theorem dX8_moveVertically_245 : decode cX8_moveVertically 245 = .ok (.ireturn, 1) := by decide +kernel
theorem dX8_moveVertically_246 : decode cX8_moveVertically 246 = .ok (.aload_n 0, 1) := by decide +kernel
theorem dX8_moveVertically_247 : decode cX8_moveVertically 247 = .ok (.getfield 13, 3) := by decide +kernel
theorem dX8_moveVertically_250 : decode cX8_moveVertically 250 = .ok (.iload_n 2, 1) := by decide +kernel
theorem dX8_moveVertically_251 : decode cX8_moveVertically 251 = .ok (.invokestatic 136, 3) := by decide +kernel
theorem dX8_moveVertically_254 : decode cX8_moveVertically 254 = .ok (.istore 4, 2) := by decide +kernel
theorem dX8_moveVertically_256 : decode cX8_moveVertically 256 = .ok (.iload 4, 2) := by decide +kernel
theorem dX8_moveVertically_258 : decode cX8_moveVertically 258 = .ok (.ifCond .le 41, 3) := by decide +kernel
theorem dX8_moveVertically_261 : decode cX8_moveVertically 261 = .ok (.aload_n 0, 1) := by decide +kernel
theorem dX8_moveVertically_262 : decode cX8_moveVertically 262 = .ok (.getfield 13, 3) := by decide +kernel
theorem dX8_moveVertically_265 : decode cX8_moveVertically 265 = .ok (.iload 4, 2) := by decide +kernel
theorem dX8_moveVertically_267 : decode cX8_moveVertically 267 = .ok (.iconst 1, 1) := by decide +kernel
theorem dX8_moveVertically_268 : decode cX8_moveVertically 268 = .ok (.isub, 1) := by decide +kernel
theorem dX8_moveVertically_269 : decode cX8_moveVertically 269 = .ok (.iaload, 1) := by decide +kernel
theorem dX8_moveVertically_270 : decode cX8_moveVertically 270 = .ok (.iload_n 1, 1) := by decide +kernel
theorem dX8_moveVertically_271 : decode cX8_moveVertically 271 = .ok (.ifCond .eq 8, 3) := by decide +kernel
theorem dX8_moveVertically_274 : decode cX8_moveVertically 274 = .ok (.bipush (-3), 2) := by decide +kernel
theorem dX8_moveVertically_276 : decode cX8_moveVertically 276 = .ok (.goto 5, 3) := by decide +kernel
theorem dX8_moveVertically_279 : decode cX8_moveVertically 279 = .ok (.bipush (-2), 2) := by decide +kernel
theorem dX8_moveVertically_281 : decode cX8_moveVertically 281 = .ok (.if_icmp .ne 18, 3) := by decide +kernel
theorem dX8_moveVertically_284 : decode cX8_moveVertically 284 = .ok (.aload_n 0, 1) := by decide +kernel
theorem dX8_moveVertically_285 : decode cX8_moveVertically 285 = .ok (.aload_n 0, 1) := by decide +kernel
theorem dX8_moveVertically_286 : decode cX8_moveVertically 286 = .ok (.getfield 13, 3) := by decide +kernel
theorem dX8_moveVertically_289 : decode cX8_moveVertically 289 = .ok (.iload_n 2, 1) := by decide +kernel
theorem dX8_moveVertically_290 : decode cX8_moveVertically 290 = .ok (.invokestatic 142, 3) := by decide +kernel
theorem dX8_moveVertically_293 : decode cX8_moveVertically 293 = .ok (.iconst 1, 1) := by decide +kernel
theorem dX8_moveVertically_294 : decode cX8_moveVertically 294 = .ok (.iadd, 1) := by decide +kernel
theorem dX8_moveVertically_295 : decode cX8_moveVertically 295 = .ok (.invokevirtual 218, 3) := by decide +kernel
theorem dX8_moveVertically_298 : decode cX8_moveVertically 298 = .ok (.ireturn, 1) := by decide +kernel
theorem dX8_moveVertically_299 : decode cX8_moveVertically 299 = .ok (.bipush (-9), 2) := by decide +kernel
theorem dX8_moveVertically_301 : decode cX8_moveVertically 301 = .ok (.ireturn, 1) := by decide +kernel
theorem dX8_extend_0 : decode cX8_extend 0 = .ok (.aload_n 0, 1) := by decide +kernel
theorem dX8_extend_1 : decode cX8_extend 1 = .ok (.getfield 13, 3) := by decide +kernel
theorem dX8_extend_4 : decode cX8_extend 4 = .ok (.sipush 181, 3) := by decide +kernel
theorem dX8_extend_7 : decode cX8_extend 7 = .ok (.iaload, 1) := by decide +kernel
theorem dX8_extend_8 : decode cX8_extend 8 = .ok (.istore_n 2, 1) := by decide +kernel
theorem dX8_extend_9 : decode cX8_extend 9 = .ok (.aload_n 0, 1) := by decide +kernel
theorem dX8_extend_10 : decode cX8_extend 10 = .ok (.getfield 13, 3) := by decide +kernel
theorem dX8_extend_13 : decode cX8_extend 13 = .ok (.sipush 182, 3) := by decide +kernel
theorem dX8_extend_16 : decode cX8_extend 16 = .ok (.iaload, 1) := by decide +kernel
theorem dX8_extend_17 : decode cX8_extend 17 = .ok (.bipush (-9), 2) := by decide +kernel
theorem dX8_extend_19 : decode cX8_extend 19 = .ok (.if_icmp .ne 7, 3) := by decide +kernel
theorem dX8_extend_22 : decode cX8_extend 22 = .ok (.iload_n 2, 1) := by decide +kernel
theorem dX8_extend_23 : decode cX8_extend 23 = .ok (.goto 11, 3) := by decide +kernel
theorem dX8_extend_26 : decode cX8_extend 26 = .ok (.aload_n 0, 1) := by decide +kernel
theorem dX8_extend_27 : decode cX8_extend 27 = .ok (.getfield 13, 3) := by decide +kernel
theorem dX8_extend_30 : decode cX8_extend 30 = .ok (.sipush 182, 3) := by decide +kernel
theorem dX8_extend_33 : decode cX8_extend 33 = .ok (.iaload, 1) := by decide +kernel
theorem dX8_extend_34 : decode cX8_extend 34 = .ok (.istore_n 3, 1) := by decide +kernel
theorem dX8_extend_35 : decode cX8_extend 35 = .ok (.aload_n 0, 1) := by decide +kernel
theorem dX8_extend_36 : decode cX8_extend 36 = .ok (.iload_n 1, 1) := by decide +kernel
theorem dX8_extend_37 : decode cX8_extend 37 = .ok (.ifCond .eq 23, 3) := by decide +kernel
theorem dX8_extend_40 : decode cX8_extend 40 = .ok (.iload_n 2, 1) := by decide +kernel
theorem dX8_extend_41 : decode cX8_extend 41 = .ok (.aload_n 0, 1) := by decide +kernel
theorem dX8_extend_42 : decode cX8_extend 42 = .ok (.getfield 13, 3) := by decide +kernel
theorem dX8_extend_45 : decode cX8_extend 45 = .ok (.iload_n 2, 1) := by decide +kernel
theorem dX8_extend_46 : decode cX8_extend 46 = .ok (.invokestatic 142, 3) := by decide +kernel
theorem dX8_extend_49 : decode cX8_extend 49 = .ok (.if_icmp .ge 7, 3) := by decide +kernel
theorem dX8_extend_52 : decode cX8_extend 52 = .ok (.iconst 0, 1) := by decide +kernel
theorem dX8_extend_53 : decode cX8_extend 53 = .ok (.goto 24, 3) := by decide +kernel
theorem dX8_extend_56 : decode cX8_extend 56 = .ok (.iconst 1, 1) := by decide +kernel
theorem dX8_extend_57 : decode cX8_extend 57 = .ok (.goto 20, 3) := by decide +kernel
theorem dX8_extend_60 : decode cX8_extend 60 = .ok (.iload_n 3, 1) := by decide +kernel
theorem dX8_extend_61 : decode cX8_extend 61 = .ok (.aload_n 0, 1) := by decide +kernel
theorem dX8_extend_62 : decode cX8_extend 62 = .ok (.getfield 13, 3) := by decide +kernel
theorem dX8_extend_65 : decode cX8_extend 65 = .ok (.iload_n 3, 1) := by decide +kernel
theorem dX8_extend_66 : decode cX8_extend 66 = .ok (.invokestatic 136, 3) := by decide +kernel
theorem dX8_extend_69 : decode cX8_extend 69 = .ok (.if_icmp .le 7, 3) := by decide +kernel
theorem dX8_extend_72 : decode cX8_extend 72 = .ok (.iconst 0, 1) := by decide +kernel
theorem dX8_extend_73 : decode cX8_extend 73 = .ok (.goto 4, 3) := by decide +kernel
theorem dX8_extend_76 : decode cX8_extend 76 = .ok (.iconst 1, 1) := by decide +kernel
theorem dX8_extend_77 : decode cX8_extend 77 = .ok (.invokevirtual 150, 3) := by decide +kernel
theorem dX8_extend_80 : decode cX8_extend 80 = .ok (.ifCond .eq 5, 3) := by decide +kernel
theorem dX8_extend_83 : decode cX8_extend 83 = .ok (.iconst 0, 1) := by decide +kernel
theorem dX8_extend_84 : decode cX8_extend 84 = .ok (.ireturn, 1) := by decide +kernel
theorem dX8_extend_85 : decode cX8_extend 85 = .ok (.aload_n 0, 1) := by decide +kernel
theorem dX8_extend_86 : decode cX8_extend 86 = .ok (.getfield 13, 3) := by decide +kernel
theorem dX8_extend_89 : decode cX8_extend 89 = .ok (.sipush 182, 3) := by decide +kernel
theorem dX8_extend_92 : decode cX8_extend 92 = .ok (.iload_n 1, 1) := by decide +kernel
theorem dX8_extend_93 : decode cX8_extend 93 = .ok (.ifCond .eq 7, 3) := by decide +kernel
theorem dX8_extend_96 : decode cX8_extend 96 = .ok (.iload_n 3, 1) := by decide +kernel
theorem dX8_extend_97 : decode cX8_extend 97 = .ok (.goto 11, 3) := by decide +kernel
theorem dX8_extend_100 : decode cX8_extend 100 = .ok (.aload_n 0, 1) := by decide +kernel
theorem dX8_extend_101 : decode cX8_extend 101 = .ok (.getfield 13, 3) := by decide +kernel
theorem dX8_extend_104 : decode cX8_extend 104 = .ok (.iload_n 3, 1) := by decide +kernel
theorem dX8_extend_105 : decode cX8_extend 105 = .ok (.invokestatic 139, 3) := by decide +kernel
theorem dX8_extend_108 : decode cX8_extend 108 = .ok (.iastore, 1) := by decide +kernel
theorem dX8_extend_109 : decode cX8_extend 109 = .ok (.aload_n 0, 1) := by decide +kernel
theorem dX8_extend_110 : decode cX8_extend 110 = .ok (.getfield 13, 3) := by decide +kernel
theorem dX8_extend_113 : decode cX8_extend 113 = .ok (.sipush 181, 3) := by decide +kernel
theorem dX8_extend_116 : decode cX8_extend 116 = .ok (.iload_n 1, 1) := by decide +kernel
theorem dX8_extend_117 : decode cX8_extend 117 = .ok (.ifCond .eq 14, 3) := by decide +kernel
theorem dX8_extend_120 : decode cX8_extend 120 = .ok (.aload_n 0, 1) := by decide +kernel
theorem dX8_extend_121 : decode cX8_extend 121 = .ok (.getfield 13, 3) := by decide +kernel
theorem dX8_extend_124 : decode cX8_extend 124 = .ok (.iload_n 2, 1) := by decide +kernel
theorem dX8_extend_125 : decode cX8_extend 125 = .ok (.invokestatic 107, 3) := by decide +kernel
theorem dX8_extend_128 : decode cX8_extend 128 = .ok (.goto 4, 3) := by decide +kernel
theorem dX8_extend_131 : decode cX8_extend 131 = .ok (.iload_n 2, 1) := by decide +kernel
theorem dX8_extend_132 : decode cX8_extend 132 = .ok (.iastore, 1) := by decide +kernel
theorem dX8_extend_133 : decode cX8_extend 133 = .ok (.aload_n 0, 1) := by decide +kernel
theorem dX8_extend_134 : decode cX8_extend 134 = .ok (.getfield 13, 3) := by decide +kernel
theorem dX8_extend_137 : decode cX8_extend 137 = .ok (.aload_n 0, 1) := by decide +kernel
theorem dX8_extend_138 : decode cX8_extend 138 = .ok (.getfield 13, 3) := by decide +kernel
theorem dX8_extend_141 : decode cX8_extend 141 = .ok (.sipush 182, 3) := by decide +kernel
theorem dX8_extend_144 : decode cX8_extend 144 = .ok (.iaload, 1) := by decide +kernel
theorem dX8_extend_145 : decode cX8_extend 145 = .ok (.aload_n 0, 1) := by decide +kernel
theorem dX8_extend_146 : decode cX8_extend 146 = .ok (.getfield 13, 3) := by decide +kernel
theorem dX8_extend_149 : decode cX8_extend 149 = .ok (.sipush 181, 3) := by decide +kernel
theorem dX8_extend_152 : decode cX8_extend 152 = .ok (.iaload, 1) := by decide +kernel
theorem dX8_extend_153 : decode cX8_extend 153 = .ok (.invokestatic 188, 3) := by decide +kernel
theorem dX8_extend_156 : decode cX8_extend 156 = .ok (.ireturn, 1) := by decide +kernel
theorem dX8_grow_0 : decode cX8_grow 0 = .ok (.aload_n 0, 1) := by decide +kernel
theorem dX8_grow_1 : decode cX8_grow 1 = .ok (.aload_n 0, 1) := by decide +kernel
theorem dX8_grow_2 : decode cX8_grow 2 = .ok (.getfield 13, 3) := by decide +kernel
theorem dX8_grow_5 : decode cX8_grow 5 = .ok (.invokestatic 222, 3) := by decide +kernel
theorem dX8_grow_8 : decode cX8_grow 8 = .ok (.ifCond .eq 7, 3) := by decide +kernel
theorem dX8_grow_11 : decode cX8_grow 11 = .ok (.iconst 0, 1) := by decide +kernel
theorem dX8_grow_12 : decode cX8_grow 12 = .ok (.goto 4, 3) := by decide +kernel
theorem dX8_grow_15 : decode cX8_grow 15 = .ok (.iconst 1, 1) := by decide +kernel
theorem dX8_grow_16 : decode cX8_grow 16 = .ok (.invokevirtual 150, 3) := by decide +kernel
theorem dX8_grow_19 : decode cX8_grow 19 = .ok (.ifCond .eq 7, 3) := by decide +kernel
theorem dX8_grow_22 : decode cX8_grow 22 = .ok (.iconst 0, 1) := by decide +kernel
theorem dX8_grow_23 : decode cX8_grow 23 = .ok (.goto 26, 3) := by decide +kernel
theorem dX8_grow_26 : decode cX8_grow 26 = .ok (.aload_n 0, 1) := by decide +kernel
theorem dX8_grow_27 : decode cX8_grow 27 = .ok (.getfield 13, 3) := by decide +kernel
theorem dX8_grow_30 : decode cX8_grow 30 = .ok (.aload_n 0, 1) := by decide +kernel
theorem dX8_grow_31 : decode cX8_grow 31 = .ok (.getfield 13, 3) := by decide +kernel
theorem dX8_grow_34 : decode cX8_grow 34 = .ok (.sipush 182, 3) := by decide +kernel
theorem dX8_grow_37 : decode cX8_grow 37 = .ok (.iaload, 1) := by decide +kernel
theorem dX8_grow_38 : decode cX8_grow 38 = .ok (.aload_n 0, 1) := by decide +kernel
theorem dX8_grow_39 : decode cX8_grow 39 = .ok (.getfield 13, 3) := by decide +kernel
theorem dX8_grow_42 : decode cX8_grow 42 = .ok (.sipush 181, 3) := by decide +kernel
theorem dX8_grow_45 : decode cX8_grow 45 = .ok (.iaload, 1) := by decide +kernel
theorem dX8_grow_46 : decode cX8_grow 46 = .ok (.invokestatic 188, 3) := by decide +kernel
theorem dX8_grow_49 : decode cX8_grow 49 = .ok (.ireturn, 1) := by decide +kernel
theorem dX8_copy_0 : decode cX8_copy 0 = .ok (.aload_n 0, 1) := by decide +kernel
theorem dX8_copy_1 : decode cX8_copy 1 = .ok (.aload_n 0, 1) := by decide +kernel
theorem dX8_copy_2 : decode cX8_copy 2 = .ok (.getfield 13, 3) := by decide +kernel
theorem dX8_copy_5 : decode cX8_copy 5 = .ok (.sipush 182, 3) := by decide +kernel
theorem dX8_copy_8 : decode cX8_copy 8 = .ok (.iaload, 1) := by decide +kernel
theorem dX8_copy_9 : decode cX8_copy 9 = .ok (.bipush (-9), 2) := by decide +kernel
theorem dX8_copy_11 : decode cX8_copy 11 = .ok (.if_icmp .ne 7, 3) := by decide +kernel
theorem dX8_copy_14 : decode cX8_copy 14 = .ok (.iconst 1, 1) := by decide +kernel
theorem dX8_copy_15 : decode cX8_copy 15 = .ok (.goto 4, 3) := by decide +kernel
theorem dX8_copy_18 : decode cX8_copy 18 = .ok (.iconst 0, 1) := by decide +kernel
theorem dX8_copy_19 : decode cX8_copy 19 = .ok (.invokevirtual 150, 3) := by decide +kernel
theorem dX8_copy_22 : decode cX8_copy 22 = .ok (.ifCond .eq 5, 3) := by decide +kernel
theorem dX8_copy_25 : decode cX8_copy 25 = .ok (.iconst 0, 1) := by decide +kernel
theorem dX8_copy_26 : decode cX8_copy 26 = .ok (.ireturn, 1) := by decide +kernel
theorem dX8_copy_27 : decode cX8_copy 27 = .ok (.aload_n 0, 1) := by decide +kernel
theorem dX8_copy_28 : decode cX8_copy 28 = .ok (.getfield 29, 3) := by decide +kernel
theorem dX8_copy_31 : decode cX8_copy 31 = .ok (.sipush 180, 3) := by decide +kernel
theorem dX8_copy_34 : decode cX8_copy 34 = .ok (.aload_n 0, 1) := by decide +kernel
theorem dX8_copy_35 : decode cX8_copy 35 = .ok (.getfield 13, 3) := by decide +kernel
theorem dX8_copy_38 : decode cX8_copy 38 = .ok (.sipush 181, 3) := by decide +kernel
theorem dX8_copy_41 : decode cX8_copy 41 = .ok (.iaload, 1) := by decide +kernel
theorem dX8_copy_42 : decode cX8_copy 42 = .ok (.aload_n 0, 1) := by decide +kernel
theorem dX8_copy_43 : decode cX8_copy 43 = .ok (.getfield 13, 3) := by decide +kernel
theorem dX8_copy_46 : decode cX8_copy 46 = .ok (.sipush 182, 3) := by decide +kernel
theorem dX8_copy_49 : decode cX8_copy 49 = .ok (.iaload, 1) := by decide +kernel
theorem dX8_copy_50 : decode cX8_copy 50 = .ok (.isub, 1) := by decide +kernel
theorem dX8_copy_51 : decode cX8_copy 51 = .ok (.iastore, 1) := by decide +kernel
theorem dX8_copy_52 : decode cX8_copy 52 = .ok (.iconst 0, 1) := by decide +kernel
theorem dX8_copy_53 : decode cX8_copy 53 = .ok (.istore_n 1, 1) := by decide +kernel
theorem dX8_copy_54 : decode cX8_copy 54 = .ok (.iload_n 1, 1) := by decide +kernel
theorem dX8_copy_55 : decode cX8_copy 55 = .ok (.aload_n 0, 1) := by decide +kernel
theorem dX8_copy_56 : decode cX8_copy 56 = .ok (.getfield 29, 3) := by decide +kernel
theorem dX8_copy_59 : decode cX8_copy 59 = .ok (.sipush 180, 3) := by decide +kernel
theorem dX8_copy_62 : decode cX8_copy 62 = .ok (.iaload, 1) := by decide +kernel
theorem dX8_copy_63 : decode cX8_copy 63 = .ok (.if_icmp .ge 30, 3) := by decide +kernel
theorem dX8_copy_66 : decode cX8_copy 66 = .ok (.aload_n 0, 1) := by decide +kernel
theorem dX8_copy_67 : decode cX8_copy 67 = .ok (.getfield 29, 3) := by decide +kernel
theorem dX8_copy_70 : decode cX8_copy 70 = .ok (.iload_n 1, 1) := by decide +kernel
theorem dX8_copy_71 : decode cX8_copy 71 = .ok (.aload_n 0, 1) := by decide +kernel
theorem dX8_copy_72 : decode cX8_copy 72 = .ok (.getfield 13, 3) := by decide +kernel
theorem dX8_copy_75 : decode cX8_copy 75 = .ok (.aload_n 0, 1) := by decide +kernel
theorem dX8_copy_76 : decode cX8_copy 76 = .ok (.getfield 13, 3) := by decide +kernel
theorem dX8_copy_79 : decode cX8_copy 79 = .ok (.sipush 182, 3) := by decide +kernel
theorem dX8_copy_82 : decode cX8_copy 82 = .ok (.iaload, 1) := by decide +kernel
theorem dX8_copy_83 : decode cX8_copy 83 = .ok (.iload_n 1, 1) := by decide +kernel
theorem dX8_copy_84 : decode cX8_copy 84 = .ok (.iadd, 1) := by decide +kernel
theorem dX8_copy_85 : decode cX8_copy 85 = .ok (.iaload, 1) := by decide +kernel
theorem dX8_copy_86 : decode cX8_copy 86 = .ok (.iastore, 1) := by decide +kernel
theorem dX8_copy_87 : decode cX8_copy 87 = .ok (.iinc 1 1, 3) := by decide +kernel
theorem dX8_copy_90 : decode cX8_copy 90 = .ok (.goto (-36), 3) := by decide +kernel
theorem dX8_copy_93 : decode cX8_copy 93 = .ok (.aload_n 0, 1) := by decide +kernel
theorem dX8_copy_94 : decode cX8_copy 94 = .ok (.getfield 29, 3) := by decide +kernel
theorem dX8_copy_97 : decode cX8_copy 97 = .ok (.iconst 0, 1) := by decide +kernel
theorem dX8_copy_98 : decode cX8_copy 98 = .ok (.aload_n 0, 1) := by decide +kernel
theorem dX8_copy_99 : decode cX8_copy 99 = .ok (.getfield 29, 3) := by decide +kernel
theorem dX8_copy_102 : decode cX8_copy 102 = .ok (.sipush 180, 3) := by decide +kernel
theorem dX8_copy_105 : decode cX8_copy 105 = .ok (.iaload, 1) := by decide +kernel
theorem dX8_copy_106 : decode cX8_copy 106 = .ok (.invokestatic 114, 3) := by decide +kernel
theorem dX8_copy_109 : decode cX8_copy 109 = .ok (.ireturn, 1) := by decide +kernel
theorem dX8_note_0 : decode cX8_note 0 = .ok (.aload_n 0, 1) := by decide +kernel
theorem dX8_note_1 : decode cX8_note 1 = .ok (.getfield 182, 3) := by decide +kernel
theorem dX8_note_4 : decode cX8_note 4 = .ok (.bipush 14, 2) := by decide +kernel
theorem dX8_note_6 : decode cX8_note 6 = .ok (.if_icmp .ne 44, 3) := by decide +kernel
theorem dX8_note_9 : decode cX8_note 9 = .ok (.iconst 0, 1) := by decide +kernel
theorem dX8_note_10 : decode cX8_note 10 = .ok (.istore_n 1, 1) := by decide +kernel
theorem dX8_note_11 : decode cX8_note 11 = .ok (.iload_n 1, 1) := by decide +kernel
theorem dX8_note_12 : decode cX8_note 12 = .ok (.sipush 2392, 3) := by decide +kernel
theorem dX8_note_15 : decode cX8_note 15 = .ok (.if_icmp .ge 25, 3) := by decide +kernel
theorem dX8_note_18 : decode cX8_note 18 = .ok (.aload_n 0, 1) := by decide +kernel
theorem dX8_note_19 : decode cX8_note 19 = .ok (.getfield 19, 3) := by decide +kernel
theorem dX8_note_22 : decode cX8_note 22 = .ok (.iload_n 1, 1) := by decide +kernel
theorem dX8_note_23 : decode cX8_note 23 = .ok (.aload_n 0, 1) := by decide +kernel
theorem dX8_note_24 : decode cX8_note 24 = .ok (.getfield 19, 3) := by decide +kernel
theorem dX8_note_27 : decode cX8_note 27 = .ok (.iload_n 1, 1) := by decide +kernel
theorem dX8_note_28 : decode cX8_note 28 = .ok (.sipush 184, 3) := by decide +kernel
theorem dX8_note_31 : decode cX8_note 31 = .ok (.iadd, 1) := by decide +kernel
theorem dX8_note_32 : decode cX8_note 32 = .ok (.iaload, 1) := by decide +kernel
theorem dX8_note_33 : decode cX8_note 33 = .ok (.iastore, 1) := by decide +kernel
theorem dX8_note_34 : decode cX8_note 34 = .ok (.iinc 1 1, 3) := by decide +kernel
theorem dX8_note_37 : decode cX8_note 37 = .ok (.goto (-26), 3) := by decide +kernel
theorem dX8_note_40 : decode cX8_note 40 = .ok (.aload_n 0, 1) := by decide +kernel
theorem dX8_note_41 : decode cX8_note 41 = .ok (.dup, 1) := by decide +kernel
theorem dX8_note_42 : decode cX8_note 42 = .ok (.getfield 182, 3) := by decide +kernel
theorem dX8_note_45 : decode cX8_note 45 = .ok (.iconst 1, 1) := by decide +kernel
theorem dX8_note_46 : decode cX8_note 46 = .ok (.isub, 1) := by decide +kernel
theorem dX8_note_47 : decode cX8_note 47 = .ok (.putfield 182, 3) := by decide +kernel
theorem dX8_note_50 : decode cX8_note 50 = .ok (.aload_n 0, 1) := by decide +kernel
theorem dX8_note_51 : decode cX8_note 51 = .ok (.getfield 13, 3) := by decide +kernel
theorem dX8_note_54 : decode cX8_note 54 = .ok (.iconst 0, 1) := by decide +kernel
theorem dX8_note_55 : decode cX8_note 55 = .ok (.aload_n 0, 1) := by decide +kernel
theorem dX8_note_56 : decode cX8_note 56 = .ok (.getfield 19, 3) := by decide +kernel
theorem dX8_note_59 : decode cX8_note 59 = .ok (.sipush 184, 3) := by decide +kernel
theorem dX8_note_62 : decode cX8_note 62 = .ok (.aload_n 0, 1) := by decide +kernel
theorem dX8_note_63 : decode cX8_note 63 = .ok (.getfield 182, 3) := by decide +kernel
theorem dX8_note_66 : decode cX8_note 66 = .ok (.imul, 1) := by decide +kernel
theorem dX8_note_67 : decode cX8_note 67 = .ok (.invokestatic 226, 3) := by decide +kernel
theorem dX8_note_70 : decode cX8_note 70 = .ok (.aload_n 0, 1) := by decide +kernel
theorem dX8_note_71 : decode cX8_note 71 = .ok (.dup, 1) := by decide +kernel
theorem dX8_note_72 : decode cX8_note 72 = .ok (.getfield 182, 3) := by decide +kernel
theorem dX8_note_75 : decode cX8_note 75 = .ok (.iconst 1, 1) := by decide +kernel
theorem dX8_note_76 : decode cX8_note 76 = .ok (.iadd, 1) := by decide +kernel
theorem dX8_note_77 : decode cX8_note 77 = .ok (.putfield 182, 3) := by decide +kernel
theorem dX8_note_80 : decode cX8_note 80 = .ok (.return_, 1) := by decide +kernel
theorem dX8_take_0 : decode cX8_take 0 = .ok (.aload_n 0, 1) := by decide +kernel
theorem dX8_take_1 : decode cX8_take 1 = .ok (.invokevirtual 230, 3) := by decide +kernel
theorem dX8_take_4 : decode cX8_take 4 = .ok (.aload_n 0, 1) := by decide +kernel
theorem dX8_take_5 : decode cX8_take 5 = .ok (.getfield 16, 3) := by decide +kernel
theorem dX8_take_8 : decode cX8_take 8 = .ok (.iconst 0, 1) := by decide +kernel
theorem dX8_take_9 : decode cX8_take 9 = .ok (.aload_n 0, 1) := by decide +kernel
theorem dX8_take_10 : decode cX8_take 10 = .ok (.getfield 13, 3) := by decide +kernel
theorem dX8_take_13 : decode cX8_take 13 = .ok (.iconst 0, 1) := by decide +kernel
theorem dX8_take_14 : decode cX8_take 14 = .ok (.invokestatic 226, 3) := by decide +kernel
theorem dX8_take_17 : decode cX8_take 17 = .ok (.return_, 1) := by decide +kernel
theorem dX8_type_0 : decode cX8_type 0 = .ok (.aload_n 0, 1) := by decide +kernel
theorem dX8_type_1 : decode cX8_type 1 = .ok (.getfield 13, 3) := by decide +kernel
theorem dX8_type_4 : decode cX8_type 4 = .ok (.iconst 0, 1) := by decide +kernel
theorem dX8_type_5 : decode cX8_type 5 = .ok (.aload_n 0, 1) := by decide +kernel
theorem dX8_type_6 : decode cX8_type 6 = .ok (.getfield 16, 3) := by decide +kernel
theorem dX8_type_9 : decode cX8_type 9 = .ok (.iconst 0, 1) := by decide +kernel
theorem dX8_type_10 : decode cX8_type 10 = .ok (.invokestatic 226, 3) := by decide +kernel
theorem dX8_type_13 : decode cX8_type 13 = .ok (.aload_n 0, 1) := by decide +kernel
theorem dX8_type_14 : decode cX8_type 14 = .ok (.iload_n 1, 1) := by decide +kernel
theorem dX8_type_15 : decode cX8_type 15 = .ok (.invokestatic 118, 3) := by decide +kernel
theorem dX8_type_18 : decode cX8_type 18 = .ok (.ifCond .ne 7, 3) := by decide +kernel
theorem dX8_type_21 : decode cX8_type 21 = .ok (.iconst 1, 1) := by decide +kernel
theorem dX8_type_22 : decode cX8_type 22 = .ok (.goto 19, 3) := by decide +kernel
theorem dX8_type_25 : decode cX8_type 25 = .ok (.aload_n 0, 1) := by decide +kernel
theorem dX8_type_26 : decode cX8_type 26 = .ok (.getfield 16, 3) := by decide +kernel
theorem dX8_type_29 : decode cX8_type 29 = .ok (.iload_n 1, 1) := by decide +kernel
theorem dX8_type_30 : decode cX8_type 30 = .ok (.invokestatic 233, 3) := by decide +kernel
theorem dX8_type_33 : decode cX8_type 33 = .ok (.ifCond .eq 7, 3) := by decide +kernel
theorem dX8_type_36 : decode cX8_type 36 = .ok (.iconst 0, 1) := by decide +kernel
theorem dX8_type_37 : decode cX8_type 37 = .ok (.goto 4, 3) := by decide +kernel
theorem dX8_type_40 : decode cX8_type 40 = .ok (.iconst 2, 1) := by decide +kernel
theorem dX8_type_41 : decode cX8_type 41 = .ok (.invokevirtual 150, 3) := by decide +kernel
theorem dX8_type_44 : decode cX8_type 44 = .ok (.ifCond .eq 5, 3) := by decide +kernel
theorem dX8_type_47 : decode cX8_type 47 = .ok (.iconst 0, 1) := by decide +kernel
theorem dX8_type_48 : decode cX8_type 48 = .ok (.ireturn, 1) := by decide +kernel
theorem dX8_type_49 : decode cX8_type 49 = .ok (.aload_n 0, 1) := by decide +kernel
theorem dX8_type_50 : decode cX8_type 50 = .ok (.invokevirtual 237, 3) := by decide +kernel
theorem dX8_type_53 : decode cX8_type 53 = .ok (.aload_n 0, 1) := by decide +kernel
theorem dX8_type_54 : decode cX8_type 54 = .ok (.getfield 13, 3) := by decide +kernel
theorem dX8_type_57 : decode cX8_type 57 = .ok (.iconst 0, 1) := by decide +kernel
theorem dX8_type_58 : decode cX8_type 58 = .ok (.aload_n 0, 1) := by decide +kernel
theorem dX8_type_59 : decode cX8_type 59 = .ok (.getfield 13, 3) := by decide +kernel
theorem dX8_type_62 : decode cX8_type 62 = .ok (.sipush 180, 3) := by decide +kernel
theorem dX8_type_65 : decode cX8_type 65 = .ok (.iaload, 1) := by decide +kernel
theorem dX8_type_66 : decode cX8_type 66 = .ok (.invokestatic 114, 3) := by decide +kernel
theorem dX8_type_69 : decode cX8_type 69 = .ok (.ireturn, 1) := by decide +kernel
theorem dX8_wrap_0 : decode cX8_wrap 0 = .ok (.aload_n 0, 1) := by decide +kernel
theorem dX8_wrap_1 : decode cX8_wrap 1 = .ok (.getfield 13, 3) := by decide +kernel
theorem dX8_wrap_4 : decode cX8_wrap 4 = .ok (.iconst 0, 1) := by decide +kernel
theorem dX8_wrap_5 : decode cX8_wrap 5 = .ok (.aload_n 0, 1) := by decide +kernel
theorem dX8_wrap_6 : decode cX8_wrap 6 = .ok (.getfield 16, 3) := by decide +kernel
theorem dX8_wrap_9 : decode cX8_wrap 9 = .ok (.iconst 0, 1) := by decide +kernel
theorem dX8_wrap_10 : decode cX8_wrap 10 = .ok (.invokestatic 226, 3) := by decide +kernel
theorem dX8_wrap_13 : decode cX8_wrap 13 = .ok (.aload_n 0, 1) := by decide +kernel
theorem dX8_wrap_14 : decode cX8_wrap 14 = .ok (.iload_n 1, 1) := by decide +kernel
theorem dX8_wrap_15 : decode cX8_wrap 15 = .ok (.i2l, 1) := by decide +kernel
theorem dX8_wrap_16 : decode cX8_wrap 16 = .ok (.lconst 1, 1) := by decide +kernel
theorem dX8_wrap_17 : decode cX8_wrap 17 = .ok (.ldc2_w 128, 3) := by decide +kernel
theorem dX8_wrap_20 : decode cX8_wrap 20 = .ok (.invokestatic 79, 3) := by decide +kernel
theorem dX8_wrap_23 : decode cX8_wrap 23 = .ok (.ifCond .ne 7, 3) := by decide +kernel
theorem dX8_wrap_26 : decode cX8_wrap 26 = .ok (.iconst 1, 1) := by decide +kernel
theorem dX8_wrap_27 : decode cX8_wrap 27 = .ok (.goto 19, 3) := by decide +kernel
theorem dX8_wrap_30 : decode cX8_wrap 30 = .ok (.aload_n 0, 1) := by decide +kernel
theorem dX8_wrap_31 : decode cX8_wrap 31 = .ok (.getfield 16, 3) := by decide +kernel
theorem dX8_wrap_34 : decode cX8_wrap 34 = .ok (.iload_n 1, 1) := by decide +kernel
theorem dX8_wrap_35 : decode cX8_wrap 35 = .ok (.invokestatic 240, 3) := by decide +kernel
theorem dX8_wrap_38 : decode cX8_wrap 38 = .ok (.ifCond .eq 7, 3) := by decide +kernel
theorem dX8_wrap_41 : decode cX8_wrap 41 = .ok (.iconst 0, 1) := by decide +kernel
theorem dX8_wrap_42 : decode cX8_wrap 42 = .ok (.goto 4, 3) := by decide +kernel
theorem dX8_wrap_45 : decode cX8_wrap 45 = .ok (.iconst 2, 1) := by decide +kernel
theorem dX8_wrap_46 : decode cX8_wrap 46 = .ok (.invokevirtual 150, 3) := by decide +kernel
theorem dX8_wrap_49 : decode cX8_wrap 49 = .ok (.ifCond .eq 5, 3) := by decide +kernel
theorem dX8_wrap_52 : decode cX8_wrap 52 = .ok (.iconst 0, 1) := by decide +kernel
theorem dX8_wrap_53 : decode cX8_wrap 53 = .ok (.ireturn, 1) := by decide +kernel
theorem dX8_wrap_54 : decode cX8_wrap 54 = .ok (.aload_n 0, 1) := by decide +kernel
theorem dX8_wrap_55 : decode cX8_wrap 55 = .ok (.invokevirtual 237, 3) := by decide +kernel
theorem dX8_wrap_58 : decode cX8_wrap 58 = .ok (.aload_n 0, 1) := by decide +kernel
theorem dX8_wrap_59 : decode cX8_wrap 59 = .ok (.getfield 13, 3) := by decide +kernel
theorem dX8_wrap_62 : decode cX8_wrap 62 = .ok (.sipush 181, 3) := by decide +kernel
theorem dX8_wrap_65 : decode cX8_wrap 65 = .ok (.iaload, 1) := by decide +kernel
theorem dX8_wrap_66 : decode cX8_wrap 66 = .ok (.ireturn, 1) := by decide +kernel
theorem dX8_backspace_0 : decode cX8_backspace 0 = .ok (.aload_n 0, 1) := by decide +kernel
theorem dX8_backspace_1 : decode cX8_backspace 1 = .ok (.getfield 13, 3) := by decide +kernel
theorem dX8_backspace_4 : decode cX8_backspace 4 = .ok (.iconst 0, 1) := by decide +kernel
theorem dX8_backspace_5 : decode cX8_backspace 5 = .ok (.aload_n 0, 1) := by decide +kernel
theorem dX8_backspace_6 : decode cX8_backspace 6 = .ok (.getfield 16, 3) := by decide +kernel
theorem dX8_backspace_9 : decode cX8_backspace 9 = .ok (.iconst 0, 1) := by decide +kernel
theorem dX8_backspace_10 : decode cX8_backspace 10 = .ok (.invokestatic 226, 3) := by decide +kernel
theorem dX8_backspace_13 : decode cX8_backspace 13 = .ok (.aload_n 0, 1) := by decide +kernel
theorem dX8_backspace_14 : decode cX8_backspace 14 = .ok (.aload_n 0, 1) := by decide +kernel
theorem dX8_backspace_15 : decode cX8_backspace 15 = .ok (.getfield 16, 3) := by decide +kernel
theorem dX8_backspace_18 : decode cX8_backspace 18 = .ok (.invokestatic 243, 3) := by decide +kernel
theorem dX8_backspace_21 : decode cX8_backspace 21 = .ok (.ifCond .eq 7, 3) := by decide +kernel
theorem dX8_backspace_24 : decode cX8_backspace 24 = .ok (.iconst 0, 1) := by decide +kernel
theorem dX8_backspace_25 : decode cX8_backspace 25 = .ok (.goto 4, 3) := by decide +kernel
theorem dX8_backspace_28 : decode cX8_backspace 28 = .ok (.iconst 1, 1) := by decide +kernel
theorem dX8_backspace_29 : decode cX8_backspace 29 = .ok (.invokevirtual 150, 3) := by decide +kernel
theorem dX8_backspace_32 : decode cX8_backspace 32 = .ok (.ifCond .eq 5, 3) := by decide +kernel
theorem dX8_backspace_35 : decode cX8_backspace 35 = .ok (.iconst 0, 1) := by decide +kernel
theorem dX8_backspace_36 : decode cX8_backspace 36 = .ok (.ireturn, 1) := by decide +kernel
theorem dX8_backspace_37 : decode cX8_backspace 37 = .ok (.aload_n 0, 1) := by decide +kernel
theorem dX8_backspace_38 : decode cX8_backspace 38 = .ok (.getfield 13, 3) := by decide +kernel
theorem dX8_backspace_41 : decode cX8_backspace 41 = .ok (.iconst 0, 1) := by decide +kernel
theorem dX8_backspace_42 : decode cX8_backspace 42 = .ok (.aload_n 0, 1) := by decide +kernel
theorem dX8_backspace_43 : decode cX8_backspace 43 = .ok (.getfield 13, 3) := by decide +kernel
theorem dX8_backspace_46 : decode cX8_backspace 46 = .ok (.sipush 180, 3) := by decide +kernel
theorem dX8_backspace_49 : decode cX8_backspace 49 = .ok (.iaload, 1) := by decide +kernel
theorem dX8_backspace_50 : decode cX8_backspace 50 = .ok (.invokestatic 114, 3) := by decide +kernel
theorem dX8_backspace_53 : decode cX8_backspace 53 = .ok (.istore_n 1, 1) := by decide +kernel
theorem dX8_backspace_54 : decode cX8_backspace 54 = .ok (.aload_n 0, 1) := by decide +kernel
theorem dX8_backspace_55 : decode cX8_backspace 55 = .ok (.invokevirtual 237, 3) := by decide +kernel
theorem dX8_backspace_58 : decode cX8_backspace 58 = .ok (.iload_n 1, 1) := by decide +kernel
theorem dX8_backspace_59 : decode cX8_backspace 59 = .ok (.aload_n 0, 1) := by decide +kernel
theorem dX8_backspace_60 : decode cX8_backspace 60 = .ok (.getfield 13, 3) := by decide +kernel
theorem dX8_backspace_63 : decode cX8_backspace 63 = .ok (.iconst 0, 1) := by decide +kernel
theorem dX8_backspace_64 : decode cX8_backspace 64 = .ok (.aload_n 0, 1) := by decide +kernel
theorem dX8_backspace_65 : decode cX8_backspace 65 = .ok (.getfield 13, 3) := by decide +kernel
theorem dX8_backspace_68 : decode cX8_backspace 68 = .ok (.sipush 180, 3) := by decide +kernel
theorem dX8_backspace_71 : decode cX8_backspace 71 = .ok (.iaload, 1) := by decide +kernel
theorem dX8_backspace_72 : decode cX8_backspace 72 = .ok (.invokestatic 114, 3) := by decide +kernel
theorem dX8_backspace_75 : decode cX8_backspace 75 = .ok (.isub, 1) := by decide +kernel
theorem dX8_backspace_76 : decode cX8_backspace 76 = .ok (.ireturn, 1) := by decide +kernel
theorem dX8_paste_0 : decode cX8_paste 0 = .ok (.aload_n 0, 1) := by decide +kernel
theorem dX8_paste_1 : decode cX8_paste 1 = .ok (.getfield 13, 3) := by decide +kernel
theorem dX8_paste_4 : decode cX8_paste 4 = .ok (.iconst 0, 1) := by decide +kernel
theorem dX8_paste_5 : decode cX8_paste 5 = .ok (.aload_n 0, 1) := by decide +kernel
theorem dX8_paste_6 : decode cX8_paste 6 = .ok (.getfield 16, 3) := by decide +kernel
theorem dX8_paste_9 : decode cX8_paste 9 = .ok (.iconst 0, 1) := by decide +kernel
theorem dX8_paste_10 : decode cX8_paste 10 = .ok (.invokestatic 226, 3) := by decide +kernel
theorem dX8_paste_13 : decode cX8_paste 13 = .ok (.aload_n 0, 1) := by decide +kernel
theorem dX8_paste_14 : decode cX8_paste 14 = .ok (.getfield 16, 3) := by decide +kernel
theorem dX8_paste_17 : decode cX8_paste 17 = .ok (.invokestatic 121, 3) := by decide +kernel
theorem dX8_paste_20 : decode cX8_paste 20 = .ok (.aload_n 0, 1) := by decide +kernel
theorem dX8_paste_21 : decode cX8_paste 21 = .ok (.getfield 16, 3) := by decide +kernel
theorem dX8_paste_24 : decode cX8_paste 24 = .ok (.iconst 0, 1) := by decide +kernel
theorem dX8_paste_25 : decode cX8_paste 25 = .ok (.aload_n 0, 1) := by decide +kernel
theorem dX8_paste_26 : decode cX8_paste 26 = .ok (.getfield 16, 3) := by decide +kernel
theorem dX8_paste_29 : decode cX8_paste 29 = .ok (.sipush 180, 3) := by decide +kernel
theorem dX8_paste_32 : decode cX8_paste 32 = .ok (.iaload, 1) := by decide +kernel
theorem dX8_paste_33 : decode cX8_paste 33 = .ok (.invokestatic 114, 3) := by decide +kernel
theorem dX8_paste_36 : decode cX8_paste 36 = .ok (.aload_n 0, 1) := by decide +kernel
theorem dX8_paste_37 : decode cX8_paste 37 = .ok (.getfield 29, 3) := by decide +kernel
theorem dX8_paste_40 : decode cX8_paste 40 = .ok (.iconst 0, 1) := by decide +kernel
theorem dX8_paste_41 : decode cX8_paste 41 = .ok (.aload_n 0, 1) := by decide +kernel
theorem dX8_paste_42 : decode cX8_paste 42 = .ok (.getfield 29, 3) := by decide +kernel
theorem dX8_paste_45 : decode cX8_paste 45 = .ok (.sipush 180, 3) := by decide +kernel
theorem dX8_paste_48 : decode cX8_paste 48 = .ok (.iaload, 1) := by decide +kernel
theorem dX8_paste_49 : decode cX8_paste 49 = .ok (.invokestatic 114, 3) := by decide +kernel
theorem dX8_paste_52 : decode cX8_paste 52 = .ok (.iadd, 1) := by decide +kernel
theorem dX8_paste_53 : decode cX8_paste 53 = .ok (.bipush 60, 2) := by decide +kernel
theorem dX8_paste_55 : decode cX8_paste 55 = .ok (.if_icmp .gt 43, 3) := by decide +kernel
theorem dX8_paste_58 : decode cX8_paste 58 = .ok (.aload_n 0, 1) := by decide +kernel
theorem dX8_paste_59 : decode cX8_paste 59 = .ok (.getfield 16, 3) := by decide +kernel
theorem dX8_paste_62 : decode cX8_paste 62 = .ok (.aload_n 0, 1) := by decide +kernel
theorem dX8_paste_63 : decode cX8_paste 63 = .ok (.getfield 16, 3) := by decide +kernel
theorem dX8_paste_66 : decode cX8_paste 66 = .ok (.sipush 181, 3) := by decide +kernel
theorem dX8_paste_69 : decode cX8_paste 69 = .ok (.iaload, 1) := by decide +kernel
theorem dX8_paste_70 : decode cX8_paste 70 = .ok (.invokestatic 130, 3) := by decide +kernel
theorem dX8_paste_73 : decode cX8_paste 73 = .ok (.aload_n 0, 1) := by decide +kernel
theorem dX8_paste_74 : decode cX8_paste 74 = .ok (.getfield 29, 3) := by decide +kernel
theorem dX8_paste_77 : decode cX8_paste 77 = .ok (.iconst 0, 1) := by decide +kernel
theorem dX8_paste_78 : decode cX8_paste 78 = .ok (.aload_n 0, 1) := by decide +kernel
theorem dX8_paste_79 : decode cX8_paste 79 = .ok (.getfield 29, 3) := by decide +kernel
theorem dX8_paste_82 : decode cX8_paste 82 = .ok (.sipush 180, 3) := by decide +kernel
theorem dX8_paste_85 : decode cX8_paste 85 = .ok (.iaload, 1) := by decide +kernel
theorem dX8_paste_86 : decode cX8_paste 86 = .ok (.invokestatic 133, 3) := by decide +kernel
theorem dX8_paste_89 : decode cX8_paste 89 = .ok (.iadd, 1) := by decide +kernel
theorem dX8_paste_90 : decode cX8_paste 90 = .ok (.iconst 5, 1) := by decide +kernel
theorem dX8_paste_91 : decode cX8_paste 91 = .ok (.if_icmp .gt 7, 3) := by decide +kernel
theorem dX8_paste_94 : decode cX8_paste 94 = .ok (.iconst 1, 1) := by decide +kernel
theorem dX8_paste_95 : decode cX8_paste 95 = .ok (.goto 4, 3) := by decide +kernel
theorem dX8_paste_98 : decode cX8_paste 98 = .ok (.iconst 0, 1) := by decide +kernel
theorem dX8_paste_99 : decode cX8_paste 99 = .ok (.istore_n 1, 1) := by decide +kernel
theorem dX8_paste_100 : decode cX8_paste 100 = .ok (.aload_n 0, 1) := by decide +kernel
theorem dX8_paste_101 : decode cX8_paste 101 = .ok (.aload_n 0, 1) := by decide +kernel
theorem dX8_paste_102 : decode cX8_paste 102 = .ok (.getfield 29, 3) := by decide +kernel
theorem dX8_paste_105 : decode cX8_paste 105 = .ok (.sipush 180, 3) := by decide +kernel
theorem dX8_paste_108 : decode cX8_paste 108 = .ok (.iaload, 1) := by decide +kernel
theorem dX8_paste_109 : decode cX8_paste 109 = .ok (.ifCond .le 11, 3) := by decide +kernel
theorem dX8_paste_112 : decode cX8_paste 112 = .ok (.iload_n 1, 1) := by decide +kernel
theorem dX8_paste_113 : decode cX8_paste 113 = .ok (.ifCond .eq 7, 3) := by decide +kernel
theorem dX8_paste_116 : decode cX8_paste 116 = .ok (.iconst 0, 1) := by decide +kernel
theorem dX8_paste_117 : decode cX8_paste 117 = .ok (.goto 4, 3) := by decide +kernel
theorem dX8_paste_120 : decode cX8_paste 120 = .ok (.iconst 1, 1) := by decide +kernel
theorem dX8_paste_121 : decode cX8_paste 121 = .ok (.invokevirtual 150, 3) := by decide +kernel
theorem dX8_paste_124 : decode cX8_paste 124 = .ok (.ifCond .eq 5, 3) := by decide +kernel
theorem dX8_paste_127 : decode cX8_paste 127 = .ok (.iconst 0, 1) := by decide +kernel
theorem dX8_paste_128 : decode cX8_paste 128 = .ok (.ireturn, 1) := by decide +kernel
theorem dX8_paste_129 : decode cX8_paste 129 = .ok (.iconst 0, 1) := by decide +kernel
theorem dX8_paste_130 : decode cX8_paste 130 = .ok (.istore_n 2, 1) := by decide +kernel
theorem dX8_paste_131 : decode cX8_paste 131 = .ok (.iload_n 2, 1) := by decide +kernel
theorem dX8_paste_132 : decode cX8_paste 132 = .ok (.aload_n 0, 1) := by decide +kernel
theorem dX8_paste_133 : decode cX8_paste 133 = .ok (.getfield 29, 3) := by decide +kernel
theorem dX8_paste_136 : decode cX8_paste 136 = .ok (.sipush 180, 3) := by decide +kernel
theorem dX8_paste_139 : decode cX8_paste 139 = .ok (.iaload, 1) := by decide +kernel
theorem dX8_paste_140 : decode cX8_paste 140 = .ok (.if_icmp .ge 42, 3) := by decide +kernel
theorem dX8_paste_143 : decode cX8_paste 143 = .ok (.aload_n 0, 1) := by decide +kernel
theorem dX8_paste_144 : decode cX8_paste 144 = .ok (.getfield 16, 3) := by decide +kernel
theorem dX8_paste_147 : decode cX8_paste 147 = .ok (.aload_n 0, 1) := by decide +kernel
theorem dX8_paste_148 : decode cX8_paste 148 = .ok (.getfield 16, 3) := by decide +kernel
theorem dX8_paste_151 : decode cX8_paste 151 = .ok (.sipush 181, 3) := by decide +kernel
theorem dX8_paste_154 : decode cX8_paste 154 = .ok (.iaload, 1) := by decide +kernel
theorem dX8_paste_155 : decode cX8_paste 155 = .ok (.aload_n 0, 1) := by decide +kernel
theorem dX8_paste_156 : decode cX8_paste 156 = .ok (.getfield 29, 3) := by decide +kernel
theorem dX8_paste_159 : decode cX8_paste 159 = .ok (.iload_n 2, 1) := by decide +kernel
theorem dX8_paste_160 : decode cX8_paste 160 = .ok (.iaload, 1) := by decide +kernel
theorem dX8_paste_161 : decode cX8_paste 161 = .ok (.invokestatic 125, 3) := by decide +kernel
theorem dX8_paste_164 : decode cX8_paste 164 = .ok (.aload_n 0, 1) := by decide +kernel
theorem dX8_paste_165 : decode cX8_paste 165 = .ok (.getfield 16, 3) := by decide +kernel
theorem dX8_paste_168 : decode cX8_paste 168 = .ok (.sipush 181, 3) := by decide +kernel
theorem dX8_paste_171 : decode cX8_paste 171 = .ok (.dup2, 1) := by decide +kernel
theorem dX8_paste_172 : decode cX8_paste 172 = .ok (.iaload, 1) := by decide +kernel
theorem dX8_paste_173 : decode cX8_paste 173 = .ok (.iconst 1, 1) := by decide +kernel
theorem dX8_paste_174 : decode cX8_paste 174 = .ok (.iadd, 1) := by decide +kernel
theorem dX8_paste_175 : decode cX8_paste 175 = .ok (.iastore, 1) := by decide +kernel
theorem dX8_paste_176 : decode cX8_paste 176 = .ok (.iinc 2 1, 3) := by decide +kernel
theorem dX8_paste_179 : decode cX8_paste 179 = .ok (.goto (-48), 3) := by decide +kernel
theorem dX8_paste_182 : decode cX8_paste 182 = .ok (.aload_n 0, 1) := by decide +kernel
theorem dX8_paste_183 : decode cX8_paste 183 = .ok (.invokevirtual 237, 3) := by decide +kernel
theorem dX8_paste_186 : decode cX8_paste 186 = .ok (.aload_n 0, 1) := by decide +kernel
theorem dX8_paste_187 : decode cX8_paste 187 = .ok (.getfield 13, 3) := by decide +kernel
theorem dX8_paste_190 : decode cX8_paste 190 = .ok (.iconst 0, 1) := by decide +kernel
theorem dX8_paste_191 : decode cX8_paste 191 = .ok (.aload_n 0, 1) := by decide +kernel
theorem dX8_paste_192 : decode cX8_paste 192 = .ok (.getfield 13, 3) := by decide +kernel
theorem dX8_paste_195 : decode cX8_paste 195 = .ok (.sipush 180, 3) := by decide +kernel
theorem dX8_paste_198 : decode cX8_paste 198 = .ok (.iaload, 1) := by decide +kernel
theorem dX8_paste_199 : decode cX8_paste 199 = .ok (.invokestatic 114, 3) := by decide +kernel
theorem dX8_paste_202 : decode cX8_paste 202 = .ok (.ireturn, 1) := by decide +kernel
theorem dX8_replace_0 : decode cX8_replace 0 = .ok (.aload_n 0, 1) := by decide +kernel
theorem dX8_replace_1 : decode cX8_replace 1 = .ok (.iload_n 1, 1) := by decide +kernel
theorem dX8_replace_2 : decode cX8_replace 2 = .ok (.invokestatic 118, 3) := by decide +kernel
theorem dX8_replace_5 : decode cX8_replace 5 = .ok (.ifCond .eq 14, 3) := by decide +kernel
theorem dX8_replace_8 : decode cX8_replace 8 = .ok (.iload_n 2, 1) := by decide +kernel
theorem dX8_replace_9 : decode cX8_replace 9 = .ok (.invokestatic 118, 3) := by decide +kernel
theorem dX8_replace_12 : decode cX8_replace 12 = .ok (.ifCond .eq 7, 3) := by decide +kernel
theorem dX8_replace_15 : decode cX8_replace 15 = .ok (.iconst 0, 1) := by decide +kernel
theorem dX8_replace_16 : decode cX8_replace 16 = .ok (.goto 4, 3) := by decide +kernel
theorem dX8_replace_19 : decode cX8_replace 19 = .ok (.iconst 1, 1) := by decide +kernel
theorem dX8_replace_20 : decode cX8_replace 20 = .ok (.invokevirtual 150, 3) := by decide +kernel
theorem dX8_replace_23 : decode cX8_replace 23 = .ok (.ifCond .eq 5, 3) := by decide +kernel
theorem dX8_replace_26 : decode cX8_replace 26 = .ok (.iconst 0, 1) := by decide +kernel
theorem dX8_replace_27 : decode cX8_replace 27 = .ok (.ireturn, 1) := by decide +kernel
theorem dX8_replace_28 : decode cX8_replace 28 = .ok (.aload_n 0, 1) := by decide +kernel
theorem dX8_replace_29 : decode cX8_replace 29 = .ok (.invokevirtual 230, 3) := by decide +kernel
theorem dX8_replace_32 : decode cX8_replace 32 = .ok (.iconst 0, 1) := by decide +kernel
theorem dX8_replace_33 : decode cX8_replace 33 = .ok (.istore_n 3, 1) := by decide +kernel
theorem dX8_replace_34 : decode cX8_replace 34 = .ok (.iconst 0, 1) := by decide +kernel
theorem dX8_replace_35 : decode cX8_replace 35 = .ok (.istore 4, 2) := by decide +kernel
theorem dX8_replace_37 : decode cX8_replace 37 = .ok (.iload 4, 2) := by decide +kernel
theorem dX8_replace_39 : decode cX8_replace 39 = .ok (.aload_n 0, 1) := by decide +kernel
theorem dX8_replace_40 : decode cX8_replace 40 = .ok (.getfield 13, 3) := by decide +kernel
theorem dX8_replace_43 : decode cX8_replace 43 = .ok (.sipush 180, 3) := by decide +kernel
theorem dX8_replace_46 : decode cX8_replace 46 = .ok (.iaload, 1) := by decide +kernel
theorem dX8_replace_47 : decode cX8_replace 47 = .ok (.if_icmp .ge 57, 3) := by decide +kernel
theorem dX8_replace_50 : decode cX8_replace 50 = .ok (.iload_n 3, 1) := by decide +kernel
theorem dX8_replace_51 : decode cX8_replace 51 = .ok (.aload_n 0, 1) := by decide +kernel
theorem dX8_replace_52 : decode cX8_replace 52 = .ok (.getfield 13, 3) := by decide +kernel
theorem dX8_replace_55 : decode cX8_replace 55 = .ok (.iload 4, 2) := by decide +kernel
theorem dX8_replace_57 : decode cX8_replace 57 = .ok (.iaload, 1) := by decide +kernel
theorem dX8_replace_58 : decode cX8_replace 58 = .ok (.iload_n 1, 1) := by decide +kernel
theorem dX8_replace_59 : decode cX8_replace 59 = .ok (.if_icmp .ne 7, 3) := by decide +kernel
theorem dX8_replace_62 : decode cX8_replace 62 = .ok (.iconst 1, 1) := by decide +kernel
theorem dX8_replace_63 : decode cX8_replace 63 = .ok (.goto 4, 3) := by decide +kernel
theorem dX8_replace_66 : decode cX8_replace 66 = .ok (.iconst 0, 1) := by decide +kernel
theorem dX8_replace_67 : decode cX8_replace 67 = .ok (.iadd, 1) := by decide +kernel
theorem dX8_replace_68 : decode cX8_replace 68 = .ok (.istore_n 3, 1) := by decide +kernel
theorem dX8_replace_69 : decode cX8_replace 69 = .ok (.aload_n 0, 1) := by decide +kernel
theorem dX8_replace_70 : decode cX8_replace 70 = .ok (.getfield 13, 3) := by decide +kernel
theorem dX8_replace_73 : decode cX8_replace 73 = .ok (.iload 4, 2) := by decide +kernel
theorem dX8_replace_75 : decode cX8_replace 75 = .ok (.aload_n 0, 1) := by decide +kernel
theorem dX8_replace_76 : decode cX8_replace 76 = .ok (.getfield 13, 3) := by decide +kernel
theorem dX8_replace_79 : decode cX8_replace 79 = .ok (.iload 4, 2) := by decide +kernel
theorem dX8_replace_81 : decode cX8_replace 81 = .ok (.iaload, 1) := by decide +kernel
theorem dX8_replace_82 : decode cX8_replace 82 = .ok (.iload_n 1, 1) := by decide +kernel
theorem dX8_replace_83 : decode cX8_replace 83 = .ok (.if_icmp .ne 7, 3) := by decide +kernel
theorem dX8_replace_86 : decode cX8_replace 86 = .ok (.iload_n 2, 1) := by decide +kernel
theorem dX8_replace_87 : decode cX8_replace 87 = .ok (.goto 10, 3) := by decide +kernel
theorem dX8_replace_90 : decode cX8_replace 90 = .ok (.aload_n 0, 1) := by decide +kernel
theorem dX8_replace_91 : decode cX8_replace 91 = .ok (.getfield 13, 3) := by decide +kernel
theorem dX8_replace_94 : decode cX8_replace 94 = .ok (.iload 4, 2) := by decide +kernel
theorem dX8_replace_96 : decode cX8_replace 96 = .ok (.iaload, 1) := by decide +kernel
theorem dX8_replace_97 : decode cX8_replace 97 = .ok (.iastore, 1) := by decide +kernel
theorem dX8_replace_98 : decode cX8_replace 98 = .ok (.iinc 4 1, 3) := by decide +kernel
theorem dX8_replace_101 : decode cX8_replace 101 = .ok (.goto (-64), 3) := by decide +kernel
theorem dX8_replace_104 : decode cX8_replace 104 = .ok (.iload_n 3, 1) := by decide +kernel
theorem dX8_replace_105 : decode cX8_replace 105 = .ok (.ireturn, 1) := by decide +kernel
theorem dX8_undo_0 : decode cX8_undo 0 = .ok (.aload_n 0, 1) := by decide +kernel
theorem dX8_undo_1 : decode cX8_undo 1 = .ok (.aload_n 0, 1) := by decide +kernel
theorem dX8_undo_2 : decode cX8_undo 2 = .ok (.getfield 182, 3) := by decide +kernel
theorem dX8_undo_5 : decode cX8_undo 5 = .ok (.ifCond .ne 7, 3) := by decide +kernel
theorem dX8_undo_8 : decode cX8_undo 8 = .ok (.iconst 1, 1) := by decide +kernel
theorem dX8_undo_9 : decode cX8_undo 9 = .ok (.goto 4, 3) := by decide +kernel
theorem dX8_undo_12 : decode cX8_undo 12 = .ok (.iconst 0, 1) := by decide +kernel
theorem dX8_undo_13 : decode cX8_undo 13 = .ok (.invokevirtual 150, 3) := by decide +kernel
theorem dX8_undo_16 : decode cX8_undo 16 = .ok (.ifCond .eq 5, 3) := by decide +kernel
theorem dX8_undo_19 : decode cX8_undo 19 = .ok (.iconst 0, 1) := by decide +kernel
theorem dX8_undo_20 : decode cX8_undo 20 = .ok (.ireturn, 1) := by decide +kernel
theorem dX8_undo_21 : decode cX8_undo 21 = .ok (.aload_n 0, 1) := by decide +kernel
theorem dX8_undo_22 : decode cX8_undo 22 = .ok (.dup, 1) := by decide +kernel
theorem dX8_undo_23 : decode cX8_undo 23 = .ok (.getfield 182, 3) := by decide +kernel
theorem dX8_undo_26 : decode cX8_undo 26 = .ok (.iconst 1, 1) := by decide +kernel
theorem dX8_undo_27 : decode cX8_undo 27 = .ok (.isub, 1) := by decide +kernel
theorem dX8_undo_28 : decode cX8_undo 28 = .ok (.putfield 182, 3) := by decide +kernel
theorem dX8_undo_31 : decode cX8_undo 31 = .ok (.aload_n 0, 1) := by decide +kernel
theorem dX8_undo_32 : decode cX8_undo 32 = .ok (.getfield 19, 3) := by decide +kernel
theorem dX8_undo_35 : decode cX8_undo 35 = .ok (.sipush 184, 3) := by decide +kernel
theorem dX8_undo_38 : decode cX8_undo 38 = .ok (.aload_n 0, 1) := by decide +kernel
theorem dX8_undo_39 : decode cX8_undo 39 = .ok (.getfield 182, 3) := by decide +kernel
theorem dX8_undo_42 : decode cX8_undo 42 = .ok (.imul, 1) := by decide +kernel
theorem dX8_undo_43 : decode cX8_undo 43 = .ok (.aload_n 0, 1) := by decide +kernel
theorem dX8_undo_44 : decode cX8_undo 44 = .ok (.getfield 13, 3) := by decide +kernel
theorem dX8_undo_47 : decode cX8_undo 47 = .ok (.iconst 0, 1) := by decide +kernel
theorem dX8_undo_48 : decode cX8_undo 48 = .ok (.invokestatic 226, 3) := by decide +kernel
theorem dX8_undo_51 : decode cX8_undo 51 = .ok (.aload_n 0, 1) := by decide +kernel
theorem dX8_undo_52 : decode cX8_undo 52 = .ok (.getfield 182, 3) := by decide +kernel
theorem dX8_undo_55 : decode cX8_undo 55 = .ok (.ireturn, 1) := by decide +kernel
theorem dX8_layRow_0 : decode cX8_layRow 0 = .ok (.aload_n 1, 1) := by decide +kernel
theorem dX8_layRow_1 : decode cX8_layRow 1 = .ok (.iload_n 2, 1) := by decide +kernel
theorem dX8_layRow_2 : decode cX8_layRow 2 = .ok (.invokestatic 142, 3) := by decide +kernel
theorem dX8_layRow_5 : decode cX8_layRow 5 = .ok (.istore_n 3, 1) := by decide +kernel
theorem dX8_layRow_6 : decode cX8_layRow 6 = .ok (.aload_n 0, 1) := by decide +kernel
theorem dX8_layRow_7 : decode cX8_layRow 7 = .ok (.getfield 56, 3) := by decide +kernel
theorem dX8_layRow_10 : decode cX8_layRow 10 = .ok (.iload_n 2, 1) := by decide +kernel
theorem dX8_layRow_11 : decode cX8_layRow 11 = .ok (.iload_n 2, 1) := by decide +kernel
theorem dX8_layRow_12 : decode cX8_layRow 12 = .ok (.iload_n 3, 1) := by decide +kernel
theorem dX8_layRow_13 : decode cX8_layRow 13 = .ok (.if_icmp .ne 7, 3) := by decide +kernel
theorem dX8_layRow_16 : decode cX8_layRow 16 = .ok (.iconst 1, 1) := by decide +kernel
theorem dX8_layRow_17 : decode cX8_layRow 17 = .ok (.goto 4, 3) := by decide +kernel
theorem dX8_layRow_20 : decode cX8_layRow 20 = .ok (.iconst 0, 1) := by decide +kernel
theorem dX8_layRow_21 : decode cX8_layRow 21 = .ok (.iastore, 1) := by decide +kernel
theorem dX8_layRow_22 : decode cX8_layRow 22 = .ok (.aload_n 0, 1) := by decide +kernel
theorem dX8_layRow_23 : decode cX8_layRow 23 = .ok (.getfield 59, 3) := by decide +kernel
theorem dX8_layRow_26 : decode cX8_layRow 26 = .ok (.iload_n 2, 1) := by decide +kernel
theorem dX8_layRow_27 : decode cX8_layRow 27 = .ok (.iconst 0, 1) := by decide +kernel
theorem dX8_layRow_28 : decode cX8_layRow 28 = .ok (.iastore, 1) := by decide +kernel
theorem dX8_layRow_29 : decode cX8_layRow 29 = .ok (.aload_n 0, 1) := by decide +kernel
theorem dX8_layRow_30 : decode cX8_layRow 30 = .ok (.getfield 62, 3) := by decide +kernel
theorem dX8_layRow_33 : decode cX8_layRow 33 = .ok (.iload_n 2, 1) := by decide +kernel
theorem dX8_layRow_34 : decode cX8_layRow 34 = .ok (.iconst 0, 1) := by decide +kernel
theorem dX8_layRow_35 : decode cX8_layRow 35 = .ok (.iastore, 1) := by decide +kernel
theorem dX8_layRow_36 : decode cX8_layRow 36 = .ok (.iload_n 2, 1) := by decide +kernel
theorem dX8_layRow_37 : decode cX8_layRow 37 = .ok (.istore 4, 2) := by decide +kernel
theorem dX8_layRow_39 : decode cX8_layRow 39 = .ok (.iload 4, 2) := by decide +kernel
theorem dX8_layRow_41 : decode cX8_layRow 41 = .ok (.iload_n 3, 1) := by decide +kernel
theorem dX8_layRow_42 : decode cX8_layRow 42 = .ok (.if_icmp .ge 332, 3) := by decide +kernel
theorem dX8_layRow_45 : decode cX8_layRow 45 = .ok (.iconst 0, 1) := by decide +kernel
theorem dX8_layRow_46 : decode cX8_layRow 46 = .ok (.istore 5, 2) := by decide +kernel
theorem dX8_layRow_48 : decode cX8_layRow 48 = .ok (.iconst 0, 1) := by decide +kernel
theorem dX8_layRow_49 : decode cX8_layRow 49 = .ok (.istore 6, 2) := by decide +kernel
theorem dX8_layRow_51 : decode cX8_layRow 51 = .ok (.aload_n 0, 1) := by decide +kernel
theorem dX8_layRow_52 : decode cX8_layRow 52 = .ok (.getfield 65, 3) := by decide +kernel
theorem dX8_layRow_55 : decode cX8_layRow 55 = .ok (.iload 4, 2) := by decide +kernel
theorem dX8_layRow_57 : decode cX8_layRow 57 = .ok (.iconst 1, 1) := by decide +kernel
theorem dX8_layRow_58 : decode cX8_layRow 58 = .ok (.iastore, 1) := by decide +kernel
theorem dX8_layRow_59 : decode cX8_layRow 59 = .ok (.aload_n 1, 1) := by decide +kernel
theorem dX8_layRow_60 : decode cX8_layRow 60 = .ok (.iload 4, 2) := by decide +kernel
theorem dX8_layRow_62 : decode cX8_layRow 62 = .ok (.iaload, 1) := by decide +kernel
theorem dX8_layRow_63 : decode cX8_layRow 63 = .ok (.invokestatic 97, 3) := by decide +kernel
theorem dX8_layRow_66 : decode cX8_layRow 66 = .ok (.ifCond .eq 225, 3) := by decide +kernel
theorem dX8_layRow_69 : decode cX8_layRow 69 = .ok (.iload 4, 2) := by decide +kernel
theorem dX8_layRow_71 : decode cX8_layRow 71 = .ok (.iconst 1, 1) := by decide +kernel
theorem dX8_layRow_72 : decode cX8_layRow 72 = .ok (.iadd, 1) := by decide +kernel
theorem dX8_layRow_73 : decode cX8_layRow 73 = .ok (.istore 7, 2) := by decide +kernel
theorem dX8_layRow_75 : decode cX8_layRow 75 = .ok (.aload_n 0, 1) := by decide +kernel
theorem dX8_layRow_76 : decode cX8_layRow 76 = .ok (.getfield 59, 3) := by decide +kernel
theorem dX8_layRow_79 : decode cX8_layRow 79 = .ok (.iload 7, 2) := by decide +kernel
theorem dX8_layRow_81 : decode cX8_layRow 81 = .ok (.iaload, 1) := by decide +kernel
theorem dX8_layRow_82 : decode cX8_layRow 82 = .ok (.iconst 1, 1) := by decide +kernel
theorem dX8_layRow_83 : decode cX8_layRow 83 = .ok (.iadd, 1) := by decide +kernel
theorem dX8_layRow_84 : decode cX8_layRow 84 = .ok (.aload_n 0, 1) := by decide +kernel
theorem dX8_layRow_85 : decode cX8_layRow 85 = .ok (.getfield 62, 3) := by decide +kernel
theorem dX8_layRow_88 : decode cX8_layRow 88 = .ok (.iload 7, 2) := by decide +kernel
theorem dX8_layRow_90 : decode cX8_layRow 90 = .ok (.iaload, 1) := by decide +kernel
theorem dX8_layRow_91 : decode cX8_layRow 91 = .ok (.iadd, 1) := by decide +kernel
theorem dX8_layRow_92 : decode cX8_layRow 92 = .ok (.istore 8, 2) := by decide +kernel
theorem dX8_layRow_94 : decode cX8_layRow 94 = .ok (.aload_n 1, 1) := by decide +kernel
theorem dX8_layRow_95 : decode cX8_layRow 95 = .ok (.iload 4, 2) := by decide +kernel
theorem dX8_layRow_97 : decode cX8_layRow 97 = .ok (.iaload, 1) := by decide +kernel
theorem dX8_layRow_98 : decode cX8_layRow 98 = .ok (.ineg, 1) := by decide +kernel
theorem dX8_layRow_99 : decode cX8_layRow 99 = .ok (.istore 9, 2) := by decide +kernel
theorem dX8_layRow_101 : decode cX8_layRow 101 = .ok (.aload_n 0, 1) := by decide +kernel
theorem dX8_layRow_102 : decode cX8_layRow 102 = .ok (.getfield 65, 3) := by decide +kernel
theorem dX8_layRow_105 : decode cX8_layRow 105 = .ok (.iload 4, 2) := by decide +kernel
theorem dX8_layRow_107 : decode cX8_layRow 107 = .ok (.aload_n 0, 1) := by decide +kernel
theorem dX8_layRow_108 : decode cX8_layRow 108 = .ok (.getfield 56, 3) := by decide +kernel
theorem dX8_layRow_111 : decode cX8_layRow 111 = .ok (.iload 7, 2) := by decide +kernel
theorem dX8_layRow_113 : decode cX8_layRow 113 = .ok (.iaload, 1) := by decide +kernel
theorem dX8_layRow_114 : decode cX8_layRow 114 = .ok (.iload 9, 2) := by decide +kernel
theorem dX8_layRow_116 : decode cX8_layRow 116 = .ok (.iconst 4, 1) := by decide +kernel
theorem dX8_layRow_117 : decode cX8_layRow 117 = .ok (.if_icmp .ne 7, 3) := by decide +kernel
theorem dX8_layRow_120 : decode cX8_layRow 120 = .ok (.iconst 1, 1) := by decide +kernel
theorem dX8_layRow_121 : decode cX8_layRow 121 = .ok (.goto 14, 3) := by decide +kernel
theorem dX8_layRow_124 : decode cX8_layRow 124 = .ok (.iload 9, 2) := by decide +kernel
theorem dX8_layRow_126 : decode cX8_layRow 126 = .ok (.iconst 5, 1) := by decide +kernel
theorem dX8_layRow_127 : decode cX8_layRow 127 = .ok (.if_icmp .ne 7, 3) := by decide +kernel
theorem dX8_layRow_130 : decode cX8_layRow 130 = .ok (.iconst 2, 1) := by decide +kernel
theorem dX8_layRow_131 : decode cX8_layRow 131 = .ok (.goto 4, 3) := by decide +kernel
theorem dX8_layRow_134 : decode cX8_layRow 134 = .ok (.iconst 0, 1) := by decide +kernel
theorem dX8_layRow_135 : decode cX8_layRow 135 = .ok (.iadd, 1) := by decide +kernel
theorem dX8_layRow_136 : decode cX8_layRow 136 = .ok (.iastore, 1) := by decide +kernel
theorem dX8_layRow_137 : decode cX8_layRow 137 = .ok (.iload 9, 2) := by decide +kernel
theorem dX8_layRow_139 : decode cX8_layRow 139 = .ok (.iconst 3, 1) := by decide +kernel
theorem dX8_layRow_140 : decode cX8_layRow 140 = .ok (.if_icmp .ge 8, 3) := by decide +kernel
theorem dX8_layRow_143 : decode cX8_layRow 143 = .ok (.iload 8, 2) := by decide +kernel
theorem dX8_layRow_145 : decode cX8_layRow 145 = .ok (.goto 38, 3) := by decide +kernel
theorem dX8_layRow_148 : decode cX8_layRow 148 = .ok (.iload 9, 2) := by decide +kernel
theorem dX8_layRow_150 : decode cX8_layRow 150 = .ok (.iconst 3, 1) := by decide +kernel
theorem dX8_layRow_151 : decode cX8_layRow 151 = .ok (.if_icmp .ne 7, 3) := by decide +kernel
theorem dX8_layRow_154 : decode cX8_layRow 154 = .ok (.iconst 0, 1) := by decide +kernel
theorem dX8_layRow_155 : decode cX8_layRow 155 = .ok (.goto 28, 3) := by decide +kernel
theorem dX8_layRow_158 : decode cX8_layRow 158 = .ok (.iload 9, 2) := by decide +kernel
theorem dX8_layRow_160 : decode cX8_layRow 160 = .ok (.iconst 4, 1) := by decide +kernel
theorem dX8_layRow_161 : decode cX8_layRow 161 = .ok (.if_icmp .ne 15, 3) := by decide +kernel
theorem dX8_layRow_164 : decode cX8_layRow 164 = .ok (.aload_n 0, 1) := by decide +kernel
theorem dX8_layRow_165 : decode cX8_layRow 165 = .ok (.getfield 59, 3) := by decide +kernel
theorem dX8_layRow_168 : decode cX8_layRow 168 = .ok (.iload 7, 2) := by decide +kernel
theorem dX8_layRow_170 : decode cX8_layRow 170 = .ok (.iaload, 1) := by decide +kernel
theorem dX8_layRow_171 : decode cX8_layRow 171 = .ok (.iconst 1, 1) := by decide +kernel
theorem dX8_layRow_172 : decode cX8_layRow 172 = .ok (.iadd, 1) := by decide +kernel
theorem dX8_layRow_173 : decode cX8_layRow 173 = .ok (.goto 10, 3) := by decide +kernel
theorem dX8_layRow_176 : decode cX8_layRow 176 = .ok (.aload_n 0, 1) := by decide +kernel
theorem dX8_layRow_177 : decode cX8_layRow 177 = .ok (.getfield 59, 3) := by decide +kernel
theorem dX8_layRow_180 : decode cX8_layRow 180 = .ok (.iload 7, 2) := by decide +kernel
theorem dX8_layRow_182 : decode cX8_layRow 182 = .ok (.iaload, 1) := by decide +kernel
theorem dX8_layRow_183 : decode cX8_layRow 183 = .ok (.istore 5, 2) := by decide +kernel
theorem dX8_layRow_185 : decode cX8_layRow 185 = .ok (.iload 9, 2) := by decide +kernel
theorem dX8_layRow_187 : decode cX8_layRow 187 = .ok (.iconst 3, 1) := by decide +kernel
theorem dX8_layRow_188 : decode cX8_layRow 188 = .ok (.if_icmp .ne 8, 3) := by decide +kernel
theorem dX8_layRow_191 : decode cX8_layRow 191 = .ok (.iload 8, 2) := by decide +kernel
theorem dX8_layRow_193 : decode cX8_layRow 193 = .ok (.goto 20, 3) := by decide +kernel
theorem dX8_layRow_196 : decode cX8_layRow 196 = .ok (.iload 9, 2) := by decide +kernel
theorem dX8_layRow_198 : decode cX8_layRow 198 = .ok (.iconst 3, 1) := by decide +kernel
theorem dX8_layRow_199 : decode cX8_layRow 199 = .ok (.if_icmp .le 13, 3) := by decide +kernel
theorem dX8_layRow_202 : decode cX8_layRow 202 = .ok (.aload_n 0, 1) := by decide +kernel
theorem dX8_layRow_203 : decode cX8_layRow 203 = .ok (.getfield 62, 3) := by decide +kernel
theorem dX8_layRow_206 : decode cX8_layRow 206 = .ok (.iload 7, 2) := by decide +kernel
theorem dX8_layRow_208 : decode cX8_layRow 208 = .ok (.iaload, 1) := by decide +kernel
theorem dX8_layRow_209 : decode cX8_layRow 209 = .ok (.goto 4, 3) := by decide +kernel
theorem dX8_layRow_212 : decode cX8_layRow 212 = .ok (.iconst 0, 1) := by decide +kernel
theorem dX8_layRow_213 : decode cX8_layRow 213 = .ok (.istore 6, 2) := by decide +kernel
theorem dX8_layRow_215 : decode cX8_layRow 215 = .ok (.iload 9, 2) := by decide +kernel
theorem dX8_layRow_217 : decode cX8_layRow 217 = .ok (.iconst 1, 1) := by decide +kernel
theorem dX8_layRow_218 : decode cX8_layRow 218 = .ok (.if_icmp .ne 73, 3) := by decide +kernel
theorem dX8_layRow_221 : decode cX8_layRow 221 = .ok (.aload_n 1, 1) := by decide +kernel
theorem dX8_layRow_222 : decode cX8_layRow 222 = .ok (.iload 7, 2) := by decide +kernel
theorem dX8_layRow_224 : decode cX8_layRow 224 = .ok (.invokestatic 142, 3) := by decide +kernel
theorem dX8_layRow_227 : decode cX8_layRow 227 = .ok (.iconst 1, 1) := by decide +kernel
theorem dX8_layRow_228 : decode cX8_layRow 228 = .ok (.iadd, 1) := by decide +kernel
theorem dX8_layRow_229 : decode cX8_layRow 229 = .ok (.istore 10, 2) := by decide +kernel
theorem dX8_layRow_231 : decode cX8_layRow 231 = .ok (.aload_n 0, 1) := by decide +kernel
theorem dX8_layRow_232 : decode cX8_layRow 232 = .ok (.getfield 59, 3) := by decide +kernel
theorem dX8_layRow_235 : decode cX8_layRow 235 = .ok (.iload 10, 2) := by decide +kernel
theorem dX8_layRow_237 : decode cX8_layRow 237 = .ok (.iaload, 1) := by decide +kernel
theorem dX8_layRow_238 : decode cX8_layRow 238 = .ok (.iconst 1, 1) := by decide +kernel
theorem dX8_layRow_239 : decode cX8_layRow 239 = .ok (.iadd, 1) := by decide +kernel
theorem dX8_layRow_240 : decode cX8_layRow 240 = .ok (.aload_n 0, 1) := by decide +kernel
theorem dX8_layRow_241 : decode cX8_layRow 241 = .ok (.getfield 62, 3) := by decide +kernel
theorem dX8_layRow_244 : decode cX8_layRow 244 = .ok (.iload 10, 2) := by decide +kernel
theorem dX8_layRow_246 : decode cX8_layRow 246 = .ok (.iaload, 1) := by decide +kernel
theorem dX8_layRow_247 : decode cX8_layRow 247 = .ok (.iadd, 1) := by decide +kernel
theorem dX8_layRow_248 : decode cX8_layRow 248 = .ok (.istore 6, 2) := by decide +kernel
theorem dX8_layRow_250 : decode cX8_layRow 250 = .ok (.aload_n 0, 1) := by decide +kernel
theorem dX8_layRow_251 : decode cX8_layRow 251 = .ok (.getfield 65, 3) := by decide +kernel
theorem dX8_layRow_254 : decode cX8_layRow 254 = .ok (.iload 4, 2) := by decide +kernel
theorem dX8_layRow_256 : decode cX8_layRow 256 = .ok (.aload_n 0, 1) := by decide +kernel
theorem dX8_layRow_257 : decode cX8_layRow 257 = .ok (.getfield 56, 3) := by decide +kernel
theorem dX8_layRow_260 : decode cX8_layRow 260 = .ok (.iload 10, 2) := by decide +kernel
theorem dX8_layRow_262 : decode cX8_layRow 262 = .ok (.iaload, 1) := by decide +kernel
theorem dX8_layRow_263 : decode cX8_layRow 263 = .ok (.aload_n 0, 1) := by decide +kernel
theorem dX8_layRow_264 : decode cX8_layRow 264 = .ok (.getfield 56, 3) := by decide +kernel
theorem dX8_layRow_267 : decode cX8_layRow 267 = .ok (.iload 7, 2) := by decide +kernel
theorem dX8_layRow_269 : decode cX8_layRow 269 = .ok (.iaload, 1) := by decide +kernel
theorem dX8_layRow_270 : decode cX8_layRow 270 = .ok (.if_icmp .le 13, 3) := by decide +kernel
theorem dX8_layRow_273 : decode cX8_layRow 273 = .ok (.aload_n 0, 1) := by decide +kernel
theorem dX8_layRow_274 : decode cX8_layRow 274 = .ok (.getfield 56, 3) := by decide +kernel
theorem dX8_layRow_277 : decode cX8_layRow 277 = .ok (.iload 10, 2) := by decide +kernel
theorem dX8_layRow_279 : decode cX8_layRow 279 = .ok (.iaload, 1) := by decide +kernel
theorem dX8_layRow_280 : decode cX8_layRow 280 = .ok (.goto 10, 3) := by decide +kernel
theorem dX8_layRow_283 : decode cX8_layRow 283 = .ok (.aload_n 0, 1) := by decide +kernel
theorem dX8_layRow_284 : decode cX8_layRow 284 = .ok (.getfield 56, 3) := by decide +kernel
theorem dX8_layRow_287 : decode cX8_layRow 287 = .ok (.iload 7, 2) := by decide +kernel
theorem dX8_layRow_289 : decode cX8_layRow 289 = .ok (.iaload, 1) := by decide +kernel
theorem dX8_layRow_290 : decode cX8_layRow 290 = .ok (.iastore, 1) := by decide +kernel
theorem dX8_layRow_291 : decode cX8_layRow 291 = .ok (.aload_n 0, 1) := by decide +kernel
theorem dX8_layRow_292 : decode cX8_layRow 292 = .ok (.getfield 56, 3) := by decide +kernel
theorem dX8_layRow_295 : decode cX8_layRow 295 = .ok (.iload_n 2, 1) := by decide +kernel
theorem dX8_layRow_296 : decode cX8_layRow 296 = .ok (.dup2, 1) := by decide +kernel
theorem dX8_layRow_297 : decode cX8_layRow 297 = .ok (.iaload, 1) := by decide +kernel
theorem dX8_layRow_298 : decode cX8_layRow 298 = .ok (.aload_n 0, 1) := by decide +kernel
theorem dX8_layRow_299 : decode cX8_layRow 299 = .ok (.getfield 65, 3) := by decide +kernel
theorem dX8_layRow_302 : decode cX8_layRow 302 = .ok (.iload 4, 2) := by decide +kernel
theorem dX8_layRow_304 : decode cX8_layRow 304 = .ok (.iaload, 1) := by decide +kernel
theorem dX8_layRow_305 : decode cX8_layRow 305 = .ok (.iadd, 1) := by decide +kernel
theorem dX8_layRow_306 : decode cX8_layRow 306 = .ok (.iastore, 1) := by decide +kernel
theorem dX8_layRow_307 : decode cX8_layRow 307 = .ok (.aload_n 0, 1) := by decide +kernel
theorem dX8_layRow_308 : decode cX8_layRow 308 = .ok (.getfield 59, 3) := by decide +kernel
theorem dX8_layRow_311 : decode cX8_layRow 311 = .ok (.iload_n 2, 1) := by decide +kernel
theorem dX8_layRow_312 : decode cX8_layRow 312 = .ok (.iload 5, 2) := by decide +kernel
theorem dX8_layRow_314 : decode cX8_layRow 314 = .ok (.aload_n 0, 1) := by decide +kernel
theorem dX8_layRow_315 : decode cX8_layRow 315 = .ok (.getfield 59, 3) := by decide +kernel
theorem dX8_layRow_318 : decode cX8_layRow 318 = .ok (.iload_n 2, 1) := by decide +kernel
theorem dX8_layRow_319 : decode cX8_layRow 319 = .ok (.iaload, 1) := by decide +kernel
theorem dX8_layRow_320 : decode cX8_layRow 320 = .ok (.if_icmp .le 8, 3) := by decide +kernel
theorem dX8_layRow_323 : decode cX8_layRow 323 = .ok (.iload 5, 2) := by decide +kernel
theorem dX8_layRow_325 : decode cX8_layRow 325 = .ok (.goto 9, 3) := by decide +kernel
theorem dX8_layRow_328 : decode cX8_layRow 328 = .ok (.aload_n 0, 1) := by decide +kernel
theorem dX8_layRow_329 : decode cX8_layRow 329 = .ok (.getfield 59, 3) := by decide +kernel
theorem dX8_layRow_332 : decode cX8_layRow 332 = .ok (.iload_n 2, 1) := by decide +kernel
theorem dX8_layRow_333 : decode cX8_layRow 333 = .ok (.iaload, 1) := by decide +kernel
theorem dX8_layRow_334 : decode cX8_layRow 334 = .ok (.iastore, 1) := by decide +kernel
theorem dX8_layRow_335 : decode cX8_layRow 335 = .ok (.aload_n 0, 1) := by decide +kernel
theorem dX8_layRow_336 : decode cX8_layRow 336 = .ok (.getfield 62, 3) := by decide +kernel
theorem dX8_layRow_339 : decode cX8_layRow 339 = .ok (.iload_n 2, 1) := by decide +kernel
theorem dX8_layRow_340 : decode cX8_layRow 340 = .ok (.iload 6, 2) := by decide +kernel
theorem dX8_layRow_342 : decode cX8_layRow 342 = .ok (.aload_n 0, 1) := by decide +kernel
theorem dX8_layRow_343 : decode cX8_layRow 343 = .ok (.getfield 62, 3) := by decide +kernel
theorem dX8_layRow_346 : decode cX8_layRow 346 = .ok (.iload_n 2, 1) := by decide +kernel
theorem dX8_layRow_347 : decode cX8_layRow 347 = .ok (.iaload, 1) := by decide +kernel
theorem dX8_layRow_348 : decode cX8_layRow 348 = .ok (.if_icmp .le 8, 3) := by decide +kernel
theorem dX8_layRow_351 : decode cX8_layRow 351 = .ok (.iload 6, 2) := by decide +kernel
theorem dX8_layRow_353 : decode cX8_layRow 353 = .ok (.goto 9, 3) := by decide +kernel
theorem dX8_layRow_356 : decode cX8_layRow 356 = .ok (.aload_n 0, 1) := by decide +kernel
theorem dX8_layRow_357 : decode cX8_layRow 357 = .ok (.getfield 62, 3) := by decide +kernel
theorem dX8_layRow_360 : decode cX8_layRow 360 = .ok (.iload_n 2, 1) := by decide +kernel
theorem dX8_layRow_361 : decode cX8_layRow 361 = .ok (.iaload, 1) := by decide +kernel
theorem dX8_layRow_362 : decode cX8_layRow 362 = .ok (.iastore, 1) := by decide +kernel
theorem dX8_layRow_363 : decode cX8_layRow 363 = .ok (.aload_n 1, 1) := by decide +kernel
theorem dX8_layRow_364 : decode cX8_layRow 364 = .ok (.iload 4, 2) := by decide +kernel
theorem dX8_layRow_366 : decode cX8_layRow 366 = .ok (.invokestatic 107, 3) := by decide +kernel
theorem dX8_layRow_369 : decode cX8_layRow 369 = .ok (.istore 4, 2) := by decide +kernel
theorem dX8_layRow_371 : decode cX8_layRow 371 = .ok (.goto (-332), 3) := by decide +kernel
theorem dX8_layRow_374 : decode cX8_layRow 374 = .ok (.return_, 1) := by decide +kernel
theorem dX8_layBoxes_0 : decode cX8_layBoxes 0 = .ok (.aload_n 1, 1) := by decide +kernel
theorem dX8_layBoxes_1 : decode cX8_layBoxes 1 = .ok (.sipush 180, 3) := by decide +kernel
theorem dX8_layBoxes_4 : decode cX8_layBoxes 4 = .ok (.iaload, 1) := by decide +kernel
theorem dX8_layBoxes_5 : decode cX8_layBoxes 5 = .ok (.iconst 1, 1) := by decide +kernel
theorem dX8_layBoxes_6 : decode cX8_layBoxes 6 = .ok (.isub, 1) := by decide +kernel
theorem dX8_layBoxes_7 : decode cX8_layBoxes 7 = .ok (.istore_n 2, 1) := by decide +kernel
theorem dX8_layBoxes_8 : decode cX8_layBoxes 8 = .ok (.iload_n 2, 1) := by decide +kernel
theorem dX8_layBoxes_9 : decode cX8_layBoxes 9 = .ok (.ifCond .lt 34, 3) := by decide +kernel
theorem dX8_layBoxes_12 : decode cX8_layBoxes 12 = .ok (.aload_n 1, 1) := by decide +kernel
theorem dX8_layBoxes_13 : decode cX8_layBoxes 13 = .ok (.iload_n 2, 1) := by decide +kernel
theorem dX8_layBoxes_14 : decode cX8_layBoxes 14 = .ok (.iaload, 1) := by decide +kernel
theorem dX8_layBoxes_15 : decode cX8_layBoxes 15 = .ok (.invokestatic 97, 3) := by decide +kernel
theorem dX8_layBoxes_18 : decode cX8_layBoxes 18 = .ok (.ifCond .ne 11, 3) := by decide +kernel
theorem dX8_layBoxes_21 : decode cX8_layBoxes 21 = .ok (.aload_n 1, 1) := by decide +kernel
theorem dX8_layBoxes_22 : decode cX8_layBoxes 22 = .ok (.iload_n 2, 1) := by decide +kernel
theorem dX8_layBoxes_23 : decode cX8_layBoxes 23 = .ok (.iaload, 1) := by decide +kernel
theorem dX8_layBoxes_24 : decode cX8_layBoxes 24 = .ok (.bipush (-10), 2) := by decide +kernel
theorem dX8_layBoxes_26 : decode cX8_layBoxes 26 = .ok (.if_icmp .ne 11, 3) := by decide +kernel
theorem dX8_layBoxes_29 : decode cX8_layBoxes 29 = .ok (.aload_n 0, 1) := by decide +kernel
theorem dX8_layBoxes_30 : decode cX8_layBoxes 30 = .ok (.aload_n 1, 1) := by decide +kernel
theorem dX8_layBoxes_31 : decode cX8_layBoxes 31 = .ok (.iload_n 2, 1) := by decide +kernel
theorem dX8_layBoxes_32 : decode cX8_layBoxes 32 = .ok (.iconst 1, 1) := by decide +kernel
theorem dX8_layBoxes_33 : decode cX8_layBoxes 33 = .ok (.iadd, 1) := by decide +kernel
theorem dX8_layBoxes_34 : decode cX8_layBoxes 34 = .ok (.invokevirtual 246, 3) := by decide +kernel
theorem dX8_layBoxes_37 : decode cX8_layBoxes 37 = .ok (.iinc 2 (-1), 3) := by decide +kernel
theorem dX8_layBoxes_40 : decode cX8_layBoxes 40 = .ok (.goto (-32), 3) := by decide +kernel
theorem dX8_layBoxes_43 : decode cX8_layBoxes 43 = .ok (.aload_n 0, 1) := by decide +kernel
theorem dX8_layBoxes_44 : decode cX8_layBoxes 44 = .ok (.aload_n 1, 1) := by decide +kernel
theorem dX8_layBoxes_45 : decode cX8_layBoxes 45 = .ok (.iconst 0, 1) := by decide +kernel
theorem dX8_layBoxes_46 : decode cX8_layBoxes 46 = .ok (.invokevirtual 246, 3) := by decide +kernel
theorem dX8_layBoxes_49 : decode cX8_layBoxes 49 = .ok (.return_, 1) := by decide +kernel
theorem dX8_drawing_0 : decode cX8_drawing 0 = .ok (.aload_n 0, 1) := by decide +kernel
theorem dX8_drawing_1 : decode cX8_drawing 1 = .ok (.iload_n 1, 1) := by decide +kernel
theorem dX8_drawing_2 : decode cX8_drawing 2 = .ok (.i2l, 1) := by decide +kernel
theorem dX8_drawing_3 : decode cX8_drawing 3 = .ok (.lconst 0, 1) := by decide +kernel
theorem dX8_drawing_4 : decode cX8_drawing 4 = .ok (.ldc2_w 191, 3) := by decide +kernel
theorem dX8_drawing_7 : decode cX8_drawing 7 = .ok (.invokestatic 79, 3) := by decide +kernel
theorem dX8_drawing_10 : decode cX8_drawing 10 = .ok (.ifCond .eq 7, 3) := by decide +kernel
theorem dX8_drawing_13 : decode cX8_drawing 13 = .ok (.iconst 0, 1) := by decide +kernel
theorem dX8_drawing_14 : decode cX8_drawing 14 = .ok (.goto 4, 3) := by decide +kernel
theorem dX8_drawing_17 : decode cX8_drawing 17 = .ok (.iconst 1, 1) := by decide +kernel
theorem dX8_drawing_18 : decode cX8_drawing 18 = .ok (.invokevirtual 150, 3) := by decide +kernel
theorem dX8_drawing_21 : decode cX8_drawing 21 = .ok (.ifCond .eq 5, 3) := by decide +kernel
theorem dX8_drawing_24 : decode cX8_drawing 24 = .ok (.iconst 0, 1) := by decide +kernel
theorem dX8_drawing_25 : decode cX8_drawing 25 = .ok (.ireturn, 1) := by decide +kernel
theorem dX8_drawing_26 : decode cX8_drawing 26 = .ok (.aload_n 0, 1) := by decide +kernel
theorem dX8_drawing_27 : decode cX8_drawing 27 = .ok (.aload_n 0, 1) := by decide +kernel
theorem dX8_drawing_28 : decode cX8_drawing 28 = .ok (.getfield 13, 3) := by decide +kernel
theorem dX8_drawing_31 : decode cX8_drawing 31 = .ok (.invokevirtual 249, 3) := by decide +kernel
theorem dX8_drawing_34 : decode cX8_drawing 34 = .ok (.iload_n 1, 1) := by decide +kernel
theorem dX8_drawing_35 : decode cX8_drawing 35 = .ok (.ifCond .ne 12, 3) := by decide +kernel
theorem dX8_drawing_38 : decode cX8_drawing 38 = .ok (.aload_n 0, 1) := by decide +kernel
theorem dX8_drawing_39 : decode cX8_drawing 39 = .ok (.getfield 56, 3) := by decide +kernel
theorem dX8_drawing_42 : decode cX8_drawing 42 = .ok (.iconst 0, 1) := by decide +kernel
theorem dX8_drawing_43 : decode cX8_drawing 43 = .ok (.iaload, 1) := by decide +kernel
theorem dX8_drawing_44 : decode cX8_drawing 44 = .ok (.goto 32, 3) := by decide +kernel
theorem dX8_drawing_47 : decode cX8_drawing 47 = .ok (.iload_n 1, 1) := by decide +kernel
theorem dX8_drawing_48 : decode cX8_drawing 48 = .ok (.iconst 1, 1) := by decide +kernel
theorem dX8_drawing_49 : decode cX8_drawing 49 = .ok (.if_icmp .ne 21, 3) := by decide +kernel
theorem dX8_drawing_52 : decode cX8_drawing 52 = .ok (.aload_n 0, 1) := by decide +kernel
theorem dX8_drawing_53 : decode cX8_drawing 53 = .ok (.getfield 59, 3) := by decide +kernel
theorem dX8_drawing_56 : decode cX8_drawing 56 = .ok (.iconst 0, 1) := by decide +kernel
theorem dX8_drawing_57 : decode cX8_drawing 57 = .ok (.iaload, 1) := by decide +kernel
theorem dX8_drawing_58 : decode cX8_drawing 58 = .ok (.iconst 1, 1) := by decide +kernel
theorem dX8_drawing_59 : decode cX8_drawing 59 = .ok (.iadd, 1) := by decide +kernel
theorem dX8_drawing_60 : decode cX8_drawing 60 = .ok (.aload_n 0, 1) := by decide +kernel
theorem dX8_drawing_61 : decode cX8_drawing 61 = .ok (.getfield 62, 3) := by decide +kernel
theorem dX8_drawing_64 : decode cX8_drawing 64 = .ok (.iconst 0, 1) := by decide +kernel
theorem dX8_drawing_65 : decode cX8_drawing 65 = .ok (.iaload, 1) := by decide +kernel
theorem dX8_drawing_66 : decode cX8_drawing 66 = .ok (.iadd, 1) := by decide +kernel
theorem dX8_drawing_67 : decode cX8_drawing 67 = .ok (.goto 9, 3) := by decide +kernel
theorem dX8_drawing_70 : decode cX8_drawing 70 = .ok (.aload_n 0, 1) := by decide +kernel
theorem dX8_drawing_71 : decode cX8_drawing 71 = .ok (.getfield 59, 3) := by decide +kernel
theorem dX8_drawing_74 : decode cX8_drawing 74 = .ok (.iconst 0, 1) := by decide +kernel
theorem dX8_drawing_75 : decode cX8_drawing 75 = .ok (.iaload, 1) := by decide +kernel
theorem dX8_drawing_76 : decode cX8_drawing 76 = .ok (.ireturn, 1) := by decide +kernel
theorem dX8_signAt_0 : decode cX8_signAt 0 = .ok (.iconst 0, 1) := by decide +kernel
theorem dX8_signAt_1 : decode cX8_signAt 1 = .ok (.istore 4, 2) := by decide +kernel
theorem dX8_signAt_3 : decode cX8_signAt 3 = .ok (.iload_n 2, 1) := by decide +kernel
theorem dX8_signAt_4 : decode cX8_signAt 4 = .ok (.istore 5, 2) := by decide +kernel
theorem dX8_signAt_6 : decode cX8_signAt 6 = .ok (.iload_n 3, 1) := by decide +kernel
theorem dX8_signAt_7 : decode cX8_signAt 7 = .ok (.istore 6, 2) := by decide +kernel
theorem dX8_signAt_9 : decode cX8_signAt 9 = .ok (.iload 5, 2) := by decide +kernel
theorem dX8_signAt_11 : decode cX8_signAt 11 = .ok (.ifCond .lt 40, 3) := by decide +kernel
theorem dX8_signAt_14 : decode cX8_signAt 14 = .ok (.iload 5, 2) := by decide +kernel
theorem dX8_signAt_16 : decode cX8_signAt 16 = .ok (.aload_n 0, 1) := by decide +kernel
theorem dX8_signAt_17 : decode cX8_signAt 17 = .ok (.getfield 56, 3) := by decide +kernel
theorem dX8_signAt_20 : decode cX8_signAt 20 = .ok (.iload 4, 2) := by decide +kernel
theorem dX8_signAt_22 : decode cX8_signAt 22 = .ok (.iaload, 1) := by decide +kernel
theorem dX8_signAt_23 : decode cX8_signAt 23 = .ok (.if_icmp .ge 28, 3) := by decide +kernel
theorem dX8_signAt_26 : decode cX8_signAt 26 = .ok (.iload 6, 2) := by decide +kernel
theorem dX8_signAt_28 : decode cX8_signAt 28 = .ok (.aload_n 0, 1) := by decide +kernel
theorem dX8_signAt_29 : decode cX8_signAt 29 = .ok (.getfield 59, 3) := by decide +kernel
theorem dX8_signAt_32 : decode cX8_signAt 32 = .ok (.iload 4, 2) := by decide +kernel
theorem dX8_signAt_34 : decode cX8_signAt 34 = .ok (.iaload, 1) := by decide +kernel
theorem dX8_signAt_35 : decode cX8_signAt 35 = .ok (.ineg, 1) := by decide +kernel
theorem dX8_signAt_36 : decode cX8_signAt 36 = .ok (.if_icmp .lt 15, 3) := by decide +kernel
theorem dX8_signAt_39 : decode cX8_signAt 39 = .ok (.iload 6, 2) := by decide +kernel
theorem dX8_signAt_41 : decode cX8_signAt 41 = .ok (.aload_n 0, 1) := by decide +kernel
theorem dX8_signAt_42 : decode cX8_signAt 42 = .ok (.getfield 62, 3) := by decide +kernel
theorem dX8_signAt_45 : decode cX8_signAt 45 = .ok (.iload 4, 2) := by decide +kernel
theorem dX8_signAt_47 : decode cX8_signAt 47 = .ok (.iaload, 1) := by decide +kernel
theorem dX8_signAt_48 : decode cX8_signAt 48 = .ok (.if_icmp .le 6, 3) := by decide +kernel
theorem dX8_signAt_51 : decode cX8_signAt 51 = .ok (.bipush 32, 2) := by decide +kernel
theorem dX8_signAt_53 : decode cX8_signAt 53 = .ok (.ireturn, 1) := by decide +kernel
theorem dX8_signAt_54 : decode cX8_signAt 54 = .ok (.iload 4, 2) := by decide +kernel
theorem dX8_signAt_56 : decode cX8_signAt 56 = .ok (.istore 7, 2) := by decide +kernel
theorem dX8_signAt_58 : decode cX8_signAt 58 = .ok (.iload 7, 2) := by decide +kernel
theorem dX8_signAt_60 : decode cX8_signAt 60 = .ok (.aload_n 1, 1) := by decide +kernel
theorem dX8_signAt_61 : decode cX8_signAt 61 = .ok (.iload 7, 2) := by decide +kernel
theorem dX8_signAt_63 : decode cX8_signAt 63 = .ok (.invokestatic 142, 3) := by decide +kernel
theorem dX8_signAt_66 : decode cX8_signAt 66 = .ok (.if_icmp .ne 6, 3) := by decide +kernel
theorem dX8_signAt_69 : decode cX8_signAt 69 = .ok (.bipush 63, 2) := by decide +kernel
theorem dX8_signAt_71 : decode cX8_signAt 71 = .ok (.ireturn, 1) := by decide +kernel
theorem dX8_signAt_72 : decode cX8_signAt 72 = .ok (.iload 5, 2) := by decide +kernel
theorem dX8_signAt_74 : decode cX8_signAt 74 = .ok (.aload_n 0, 1) := by decide +kernel
theorem dX8_signAt_75 : decode cX8_signAt 75 = .ok (.getfield 65, 3) := by decide +kernel
theorem dX8_signAt_78 : decode cX8_signAt 78 = .ok (.iload 7, 2) := by decide +kernel
theorem dX8_signAt_80 : decode cX8_signAt 80 = .ok (.iaload, 1) := by decide +kernel
theorem dX8_signAt_81 : decode cX8_signAt 81 = .ok (.if_icmp .lt 26, 3) := by decide +kernel
theorem dX8_signAt_84 : decode cX8_signAt 84 = .ok (.iload 5, 2) := by decide +kernel
theorem dX8_signAt_86 : decode cX8_signAt 86 = .ok (.aload_n 0, 1) := by decide +kernel
theorem dX8_signAt_87 : decode cX8_signAt 87 = .ok (.getfield 65, 3) := by decide +kernel
theorem dX8_signAt_90 : decode cX8_signAt 90 = .ok (.iload 7, 2) := by decide +kernel
theorem dX8_signAt_92 : decode cX8_signAt 92 = .ok (.iaload, 1) := by decide +kernel
theorem dX8_signAt_93 : decode cX8_signAt 93 = .ok (.isub, 1) := by decide +kernel
theorem dX8_signAt_94 : decode cX8_signAt 94 = .ok (.istore 5, 2) := by decide +kernel
theorem dX8_signAt_96 : decode cX8_signAt 96 = .ok (.aload_n 1, 1) := by decide +kernel
theorem dX8_signAt_97 : decode cX8_signAt 97 = .ok (.iload 7, 2) := by decide +kernel
theorem dX8_signAt_99 : decode cX8_signAt 99 = .ok (.invokestatic 107, 3) := by decide +kernel
theorem dX8_signAt_102 : decode cX8_signAt 102 = .ok (.istore 7, 2) := by decide +kernel
theorem dX8_signAt_104 : decode cX8_signAt 104 = .ok (.goto (-32), 3) := by decide +kernel
theorem dX8_signAt_107 : decode cX8_signAt 107 = .ok (.iload 7, 2) := by decide +kernel
theorem dX8_signAt_109 : decode cX8_signAt 109 = .ok (.iconst 1, 1) := by decide +kernel
theorem dX8_signAt_110 : decode cX8_signAt 110 = .ok (.iadd, 1) := by decide +kernel
theorem dX8_signAt_111 : decode cX8_signAt 111 = .ok (.istore 8, 2) := by decide +kernel
theorem dX8_signAt_113 : decode cX8_signAt 113 = .ok (.aload_n 1, 1) := by decide +kernel
theorem dX8_signAt_114 : decode cX8_signAt 114 = .ok (.iload 7, 2) := by decide +kernel
theorem dX8_signAt_116 : decode cX8_signAt 116 = .ok (.iaload, 1) := by decide +kernel
theorem dX8_signAt_117 : decode cX8_signAt 117 = .ok (.tableswitch 330 (-5) (-1) #[257, 180, 151, 122, 35], 35) := by decide +kernel
theorem dX8_signAt_152 : decode cX8_signAt 152 = .ok (.iload 6, 2) := by decide +kernel
theorem dX8_signAt_154 : decode cX8_signAt 154 = .ok (.ifCond .ne 6, 3) := by decide +kernel
theorem dX8_signAt_157 : decode cX8_signAt 157 = .ok (.bipush 45, 2) := by decide +kernel
theorem dX8_signAt_159 : decode cX8_signAt 159 = .ok (.ireturn, 1) := by decide +kernel
theorem dX8_signAt_160 : decode cX8_signAt 160 = .ok (.iload 6, 2) := by decide +kernel
theorem dX8_signAt_162 : decode cX8_signAt 162 = .ok (.ifCond .ge 8, 3) := by decide +kernel
theorem dX8_signAt_165 : decode cX8_signAt 165 = .ok (.iload 8, 2) := by decide +kernel
theorem dX8_signAt_167 : decode cX8_signAt 167 = .ok (.goto 11, 3) := by decide +kernel
theorem dX8_signAt_170 : decode cX8_signAt 170 = .ok (.aload_n 1, 1) := by decide +kernel
theorem dX8_signAt_171 : decode cX8_signAt 171 = .ok (.iload 8, 2) := by decide +kernel
theorem dX8_signAt_173 : decode cX8_signAt 173 = .ok (.invokestatic 142, 3) := by decide +kernel
theorem dX8_signAt_176 : decode cX8_signAt 176 = .ok (.iconst 1, 1) := by decide +kernel
theorem dX8_signAt_177 : decode cX8_signAt 177 = .ok (.iadd, 1) := by decide +kernel
theorem dX8_signAt_178 : decode cX8_signAt 178 = .ok (.istore 4, 2) := by decide +kernel
theorem dX8_signAt_180 : decode cX8_signAt 180 = .ok (.iload 5, 2) := by decide +kernel
theorem dX8_signAt_182 : decode cX8_signAt 182 = .ok (.aload_n 0, 1) := by decide +kernel
theorem dX8_signAt_183 : decode cX8_signAt 183 = .ok (.getfield 65, 3) := by decide +kernel
theorem dX8_signAt_186 : decode cX8_signAt 186 = .ok (.iload 7, 2) := by decide +kernel
theorem dX8_signAt_188 : decode cX8_signAt 188 = .ok (.iaload, 1) := by decide +kernel
theorem dX8_signAt_189 : decode cX8_signAt 189 = .ok (.aload_n 0, 1) := by decide +kernel
theorem dX8_signAt_190 : decode cX8_signAt 190 = .ok (.getfield 56, 3) := by decide +kernel
theorem dX8_signAt_193 : decode cX8_signAt 193 = .ok (.iload 4, 2) := by decide +kernel
theorem dX8_signAt_195 : decode cX8_signAt 195 = .ok (.iaload, 1) := by decide +kernel
theorem dX8_signAt_196 : decode cX8_signAt 196 = .ok (.isub, 1) := by decide +kernel
theorem dX8_signAt_197 : decode cX8_signAt 197 = .ok (.iconst 2, 1) := by decide +kernel
theorem dX8_signAt_198 : decode cX8_signAt 198 = .ok (.idiv, 1) := by decide +kernel
theorem dX8_signAt_199 : decode cX8_signAt 199 = .ok (.isub, 1) := by decide +kernel
theorem dX8_signAt_200 : decode cX8_signAt 200 = .ok (.istore 5, 2) := by decide +kernel
theorem dX8_signAt_202 : decode cX8_signAt 202 = .ok (.iload 6, 2) := by decide +kernel
theorem dX8_signAt_204 : decode cX8_signAt 204 = .ok (.ifCond .ge 18, 3) := by decide +kernel
theorem dX8_signAt_207 : decode cX8_signAt 207 = .ok (.iload 6, 2) := by decide +kernel
theorem dX8_signAt_209 : decode cX8_signAt 209 = .ok (.iconst 1, 1) := by decide +kernel
theorem dX8_signAt_210 : decode cX8_signAt 210 = .ok (.iadd, 1) := by decide +kernel
theorem dX8_signAt_211 : decode cX8_signAt 211 = .ok (.aload_n 0, 1) := by decide +kernel
theorem dX8_signAt_212 : decode cX8_signAt 212 = .ok (.getfield 62, 3) := by decide +kernel
theorem dX8_signAt_215 : decode cX8_signAt 215 = .ok (.iload 4, 2) := by decide +kernel
theorem dX8_signAt_217 : decode cX8_signAt 217 = .ok (.iaload, 1) := by decide +kernel
theorem dX8_signAt_218 : decode cX8_signAt 218 = .ok (.iadd, 1) := by decide +kernel
theorem dX8_signAt_219 : decode cX8_signAt 219 = .ok (.goto 15, 3) := by decide +kernel
theorem dX8_signAt_222 : decode cX8_signAt 222 = .ok (.iload 6, 2) := by decide +kernel
theorem dX8_signAt_224 : decode cX8_signAt 224 = .ok (.iconst 1, 1) := by decide +kernel
theorem dX8_signAt_225 : decode cX8_signAt 225 = .ok (.isub, 1) := by decide +kernel
theorem dX8_signAt_226 : decode cX8_signAt 226 = .ok (.aload_n 0, 1) := by decide +kernel
theorem dX8_signAt_227 : decode cX8_signAt 227 = .ok (.getfield 59, 3) := by decide +kernel
theorem dX8_signAt_230 : decode cX8_signAt 230 = .ok (.iload 4, 2) := by decide +kernel
theorem dX8_signAt_232 : decode cX8_signAt 232 = .ok (.iaload, 1) := by decide +kernel
theorem dX8_signAt_233 : decode cX8_signAt 233 = .ok (.isub, 1) := by decide +kernel
theorem dX8_signAt_234 : decode cX8_signAt 234 = .ok (.istore 6, 2) := by decide +kernel
theorem dX8_signAt_236 : decode cX8_signAt 236 = .ok (.goto 226, 3) := by decide +kernel
theorem dX8_signAt_239 : decode cX8_signAt 239 = .ok (.iload 6, 2) := by decide +kernel
theorem dX8_signAt_241 : decode cX8_signAt 241 = .ok (.ifCond .lt 6, 3) := by decide +kernel
theorem dX8_signAt_244 : decode cX8_signAt 244 = .ok (.bipush 32, 2) := by decide +kernel
theorem dX8_signAt_246 : decode cX8_signAt 246 = .ok (.ireturn, 1) := by decide +kernel
theorem dX8_signAt_247 : decode cX8_signAt 247 = .ok (.iload 8, 2) := by decide +kernel
theorem dX8_signAt_249 : decode cX8_signAt 249 = .ok (.istore 4, 2) := by decide +kernel
theorem dX8_signAt_251 : decode cX8_signAt 251 = .ok (.iload 6, 2) := by decide +kernel
theorem dX8_signAt_253 : decode cX8_signAt 253 = .ok (.iconst 1, 1) := by decide +kernel
theorem dX8_signAt_254 : decode cX8_signAt 254 = .ok (.aload_n 0, 1) := by decide +kernel
theorem dX8_signAt_255 : decode cX8_signAt 255 = .ok (.getfield 62, 3) := by decide +kernel
theorem dX8_signAt_258 : decode cX8_signAt 258 = .ok (.iload 4, 2) := by decide +kernel
theorem dX8_signAt_260 : decode cX8_signAt 260 = .ok (.iaload, 1) := by decide +kernel
theorem dX8_signAt_261 : decode cX8_signAt 261 = .ok (.iadd, 1) := by decide +kernel
theorem dX8_signAt_262 : decode cX8_signAt 262 = .ok (.iadd, 1) := by decide +kernel
theorem dX8_signAt_263 : decode cX8_signAt 263 = .ok (.istore 6, 2) := by decide +kernel
theorem dX8_signAt_265 : decode cX8_signAt 265 = .ok (.goto 197, 3) := by decide +kernel
theorem dX8_signAt_268 : decode cX8_signAt 268 = .ok (.iload 6, 2) := by decide +kernel
theorem dX8_signAt_270 : decode cX8_signAt 270 = .ok (.ifCond .gt 6, 3) := by decide +kernel
theorem dX8_signAt_273 : decode cX8_signAt 273 = .ok (.bipush 32, 2) := by decide +kernel
theorem dX8_signAt_275 : decode cX8_signAt 275 = .ok (.ireturn, 1) := by decide +kernel
theorem dX8_signAt_276 : decode cX8_signAt 276 = .ok (.iload 8, 2) := by decide +kernel
theorem dX8_signAt_278 : decode cX8_signAt 278 = .ok (.istore 4, 2) := by decide +kernel
theorem dX8_signAt_280 : decode cX8_signAt 280 = .ok (.iload 6, 2) := by decide +kernel
theorem dX8_signAt_282 : decode cX8_signAt 282 = .ok (.iconst 1, 1) := by decide +kernel
theorem dX8_signAt_283 : decode cX8_signAt 283 = .ok (.aload_n 0, 1) := by decide +kernel
theorem dX8_signAt_284 : decode cX8_signAt 284 = .ok (.getfield 59, 3) := by decide +kernel
theorem dX8_signAt_287 : decode cX8_signAt 287 = .ok (.iload 4, 2) := by decide +kernel
theorem dX8_signAt_289 : decode cX8_signAt 289 = .ok (.iaload, 1) := by decide +kernel
theorem dX8_signAt_290 : decode cX8_signAt 290 = .ok (.iadd, 1) := by decide +kernel
theorem dX8_signAt_291 : decode cX8_signAt 291 = .ok (.isub, 1) := by decide +kernel
theorem dX8_signAt_292 : decode cX8_signAt 292 = .ok (.istore 6, 2) := by decide +kernel
theorem dX8_signAt_294 : decode cX8_signAt 294 = .ok (.goto 168, 3) := by decide +kernel
theorem dX8_signAt_297 : decode cX8_signAt 297 = .ok (.iload 6, 2) := by decide +kernel
theorem dX8_signAt_299 : decode cX8_signAt 299 = .ok (.aload_n 0, 1) := by decide +kernel
theorem dX8_signAt_300 : decode cX8_signAt 300 = .ok (.getfield 59, 3) := by decide +kernel
theorem dX8_signAt_303 : decode cX8_signAt 303 = .ok (.iload 8, 2) := by decide +kernel
theorem dX8_signAt_305 : decode cX8_signAt 305 = .ok (.iaload, 1) := by decide +kernel
theorem dX8_signAt_306 : decode cX8_signAt 306 = .ok (.ineg, 1) := by decide +kernel
theorem dX8_signAt_307 : decode cX8_signAt 307 = .ok (.iconst 1, 1) := by decide +kernel
theorem dX8_signAt_308 : decode cX8_signAt 308 = .ok (.isub, 1) := by decide +kernel
theorem dX8_signAt_309 : decode cX8_signAt 309 = .ok (.if_icmp .ne 16, 3) := by decide +kernel
theorem dX8_signAt_312 : decode cX8_signAt 312 = .ok (.iload 5, 2) := by decide +kernel
theorem dX8_signAt_314 : decode cX8_signAt 314 = .ok (.ifCond .le 8, 3) := by decide +kernel
theorem dX8_signAt_317 : decode cX8_signAt 317 = .ok (.bipush 95, 2) := by decide +kernel
theorem dX8_signAt_319 : decode cX8_signAt 319 = .ok (.goto 5, 3) := by decide +kernel
theorem dX8_signAt_322 : decode cX8_signAt 322 = .ok (.bipush 32, 2) := by decide +kernel
theorem dX8_signAt_324 : decode cX8_signAt 324 = .ok (.ireturn, 1) := by decide +kernel
theorem dX8_signAt_325 : decode cX8_signAt 325 = .ok (.iload 5, 2) := by decide +kernel
theorem dX8_signAt_327 : decode cX8_signAt 327 = .ok (.ifCond .ne 37, 3) := by decide +kernel
theorem dX8_signAt_330 : decode cX8_signAt 330 = .ok (.iload 6, 2) := by decide +kernel
theorem dX8_signAt_332 : decode cX8_signAt 332 = .ok (.i2l, 1) := by decide +kernel
theorem dX8_signAt_333 : decode cX8_signAt 333 = .ok (.aload_n 0, 1) := by decide +kernel
theorem dX8_signAt_334 : decode cX8_signAt 334 = .ok (.getfield 59, 3) := by decide +kernel
theorem dX8_signAt_337 : decode cX8_signAt 337 = .ok (.iload 8, 2) := by decide +kernel
theorem dX8_signAt_339 : decode cX8_signAt 339 = .ok (.iaload, 1) := by decide +kernel
theorem dX8_signAt_340 : decode cX8_signAt 340 = .ok (.ineg, 1) := by decide +kernel
theorem dX8_signAt_341 : decode cX8_signAt 341 = .ok (.i2l, 1) := by decide +kernel
theorem dX8_signAt_342 : decode cX8_signAt 342 = .ok (.aload_n 0, 1) := by decide +kernel
theorem dX8_signAt_343 : decode cX8_signAt 343 = .ok (.getfield 62, 3) := by decide +kernel
theorem dX8_signAt_346 : decode cX8_signAt 346 = .ok (.iload 8, 2) := by decide +kernel
theorem dX8_signAt_348 : decode cX8_signAt 348 = .ok (.iaload, 1) := by decide +kernel
theorem dX8_signAt_349 : decode cX8_signAt 349 = .ok (.i2l, 1) := by decide +kernel
theorem dX8_signAt_350 : decode cX8_signAt 350 = .ok (.invokestatic 79, 3) := by decide +kernel
theorem dX8_signAt_353 : decode cX8_signAt 353 = .ok (.ifCond .eq 8, 3) := by decide +kernel
theorem dX8_signAt_356 : decode cX8_signAt 356 = .ok (.bipush 86, 2) := by decide +kernel
theorem dX8_signAt_358 : decode cX8_signAt 358 = .ok (.goto 5, 3) := by decide +kernel
theorem dX8_signAt_361 : decode cX8_signAt 361 = .ok (.bipush 32, 2) := by decide +kernel
theorem dX8_signAt_363 : decode cX8_signAt 363 = .ok (.ireturn, 1) := by decide +kernel
theorem dX8_signAt_364 : decode cX8_signAt 364 = .ok (.iload 8, 2) := by decide +kernel
theorem dX8_signAt_366 : decode cX8_signAt 366 = .ok (.istore 4, 2) := by decide +kernel
theorem dX8_signAt_368 : decode cX8_signAt 368 = .ok (.iinc 5 (-1), 3) := by decide +kernel
theorem dX8_signAt_371 : decode cX8_signAt 371 = .ok (.goto 91, 3) := by decide +kernel
theorem dX8_signAt_374 : decode cX8_signAt 374 = .ok (.iload 5, 2) := by decide +kernel
theorem dX8_signAt_376 : decode cX8_signAt 376 = .ok (.ifCond .eq 17, 3) := by decide +kernel
theorem dX8_signAt_379 : decode cX8_signAt 379 = .ok (.iload 5, 2) := by decide +kernel
theorem dX8_signAt_381 : decode cX8_signAt 381 = .ok (.aload_n 0, 1) := by decide +kernel
theorem dX8_signAt_382 : decode cX8_signAt 382 = .ok (.getfield 65, 3) := by decide +kernel
theorem dX8_signAt_385 : decode cX8_signAt 385 = .ok (.iload 7, 2) := by decide +kernel
theorem dX8_signAt_387 : decode cX8_signAt 387 = .ok (.iaload, 1) := by decide +kernel
theorem dX8_signAt_388 : decode cX8_signAt 388 = .ok (.iconst 1, 1) := by decide +kernel
theorem dX8_signAt_389 : decode cX8_signAt 389 = .ok (.isub, 1) := by decide +kernel
theorem dX8_signAt_390 : decode cX8_signAt 390 = .ok (.if_icmp .ne 47, 3) := by decide +kernel
theorem dX8_signAt_393 : decode cX8_signAt 393 = .ok (.iload 6, 2) := by decide +kernel
theorem dX8_signAt_395 : decode cX8_signAt 395 = .ok (.i2l, 1) := by decide +kernel
theorem dX8_signAt_396 : decode cX8_signAt 396 = .ok (.aload_n 0, 1) := by decide +kernel
theorem dX8_signAt_397 : decode cX8_signAt 397 = .ok (.getfield 59, 3) := by decide +kernel
theorem dX8_signAt_400 : decode cX8_signAt 400 = .ok (.iload 8, 2) := by decide +kernel
theorem dX8_signAt_402 : decode cX8_signAt 402 = .ok (.iaload, 1) := by decide +kernel
theorem dX8_signAt_403 : decode cX8_signAt 403 = .ok (.ineg, 1) := by decide +kernel
theorem dX8_signAt_404 : decode cX8_signAt 404 = .ok (.i2l, 1) := by decide +kernel
theorem dX8_signAt_405 : decode cX8_signAt 405 = .ok (.aload_n 0, 1) := by decide +kernel
theorem dX8_signAt_406 : decode cX8_signAt 406 = .ok (.getfield 62, 3) := by decide +kernel
theorem dX8_signAt_409 : decode cX8_signAt 409 = .ok (.iload 8, 2) := by decide +kernel
theorem dX8_signAt_411 : decode cX8_signAt 411 = .ok (.iaload, 1) := by decide +kernel
theorem dX8_signAt_412 : decode cX8_signAt 412 = .ok (.i2l, 1) := by decide +kernel
theorem dX8_signAt_413 : decode cX8_signAt 413 = .ok (.invokestatic 79, 3) := by decide +kernel
theorem dX8_signAt_416 : decode cX8_signAt 416 = .ok (.ifCond .ne 8, 3) := by decide +kernel
theorem dX8_signAt_419 : decode cX8_signAt 419 = .ok (.bipush 32, 2) := by decide +kernel
theorem dX8_signAt_421 : decode cX8_signAt 421 = .ok (.goto 15, 3) := by decide +kernel
theorem dX8_signAt_424 : decode cX8_signAt 424 = .ok (.iload 5, 2) := by decide +kernel
theorem dX8_signAt_426 : decode cX8_signAt 426 = .ok (.ifCond .ne 8, 3) := by decide +kernel
theorem dX8_signAt_429 : decode cX8_signAt 429 = .ok (.bipush 40, 2) := by decide +kernel
theorem dX8_signAt_431 : decode cX8_signAt 431 = .ok (.goto 5, 3) := by decide +kernel
theorem dX8_signAt_434 : decode cX8_signAt 434 = .ok (.bipush 41, 2) := by decide +kernel
theorem dX8_signAt_436 : decode cX8_signAt 436 = .ok (.ireturn, 1) := by decide +kernel
theorem dX8_signAt_437 : decode cX8_signAt 437 = .ok (.iload 8, 2) := by decide +kernel
theorem dX8_signAt_439 : decode cX8_signAt 439 = .ok (.istore 4, 2) := by decide +kernel
theorem dX8_signAt_441 : decode cX8_signAt 441 = .ok (.iinc 5 (-1), 3) := by decide +kernel
theorem dX8_signAt_444 : decode cX8_signAt 444 = .ok (.goto 18, 3) := by decide +kernel
theorem dX8_signAt_447 : decode cX8_signAt 447 = .ok (.iload 6, 2) := by decide +kernel
theorem dX8_signAt_449 : decode cX8_signAt 449 = .ok (.ifCond .ne 10, 3) := by decide +kernel
theorem dX8_signAt_452 : decode cX8_signAt 452 = .ok (.aload_n 1, 1) := by decide +kernel
theorem dX8_signAt_453 : decode cX8_signAt 453 = .ok (.iload 7, 2) := by decide +kernel
theorem dX8_signAt_455 : decode cX8_signAt 455 = .ok (.iaload, 1) := by decide +kernel
theorem dX8_signAt_456 : decode cX8_signAt 456 = .ok (.goto 5, 3) := by decide +kernel
theorem dX8_signAt_459 : decode cX8_signAt 459 = .ok (.bipush 32, 2) := by decide +kernel
theorem dX8_signAt_461 : decode cX8_signAt 461 = .ok (.ireturn, 1) := by decide +kernel
theorem dX8_signAt_462 : decode cX8_signAt 462 = .ok (.goto (-453), 3) := by decide +kernel
theorem dX8_drawn_0 : decode cX8_drawn 0 = .ok (.aload_n 0, 1) := by decide +kernel
theorem dX8_drawn_1 : decode cX8_drawn 1 = .ok (.aload_n 0, 1) := by decide +kernel
theorem dX8_drawn_2 : decode cX8_drawn 2 = .ok (.getfield 13, 3) := by decide +kernel
theorem dX8_drawn_5 : decode cX8_drawn 5 = .ok (.invokevirtual 249, 3) := by decide +kernel
theorem dX8_drawn_8 : decode cX8_drawn 8 = .ok (.aload_n 0, 1) := by decide +kernel
theorem dX8_drawn_9 : decode cX8_drawn 9 = .ok (.iload_n 1, 1) := by decide +kernel
theorem dX8_drawn_10 : decode cX8_drawn 10 = .ok (.i2l, 1) := by decide +kernel
theorem dX8_drawn_11 : decode cX8_drawn 11 = .ok (.lconst 0, 1) := by decide +kernel
theorem dX8_drawn_12 : decode cX8_drawn 12 = .ok (.aload_n 0, 1) := by decide +kernel
theorem dX8_drawn_13 : decode cX8_drawn 13 = .ok (.getfield 56, 3) := by decide +kernel
theorem dX8_drawn_16 : decode cX8_drawn 16 = .ok (.iconst 0, 1) := by decide +kernel
theorem dX8_drawn_17 : decode cX8_drawn 17 = .ok (.iaload, 1) := by decide +kernel
theorem dX8_drawn_18 : decode cX8_drawn 18 = .ok (.iconst 1, 1) := by decide +kernel
theorem dX8_drawn_19 : decode cX8_drawn 19 = .ok (.isub, 1) := by decide +kernel
theorem dX8_drawn_20 : decode cX8_drawn 20 = .ok (.i2l, 1) := by decide +kernel
theorem dX8_drawn_21 : decode cX8_drawn 21 = .ok (.invokestatic 79, 3) := by decide +kernel
theorem dX8_drawn_24 : decode cX8_drawn 24 = .ok (.ifCond .eq 30, 3) := by decide +kernel
theorem dX8_drawn_27 : decode cX8_drawn 27 = .ok (.iload_n 2, 1) := by decide +kernel
theorem dX8_drawn_28 : decode cX8_drawn 28 = .ok (.i2l, 1) := by decide +kernel
theorem dX8_drawn_29 : decode cX8_drawn 29 = .ok (.lconst 0, 1) := by decide +kernel
theorem dX8_drawn_30 : decode cX8_drawn 30 = .ok (.aload_n 0, 1) := by decide +kernel
theorem dX8_drawn_31 : decode cX8_drawn 31 = .ok (.getfield 59, 3) := by decide +kernel
theorem dX8_drawn_34 : decode cX8_drawn 34 = .ok (.iconst 0, 1) := by decide +kernel
theorem dX8_drawn_35 : decode cX8_drawn 35 = .ok (.iaload, 1) := by decide +kernel
theorem dX8_drawn_36 : decode cX8_drawn 36 = .ok (.aload_n 0, 1) := by decide +kernel
theorem dX8_drawn_37 : decode cX8_drawn 37 = .ok (.getfield 62, 3) := by decide +kernel
theorem dX8_drawn_40 : decode cX8_drawn 40 = .ok (.iconst 0, 1) := by decide +kernel
theorem dX8_drawn_41 : decode cX8_drawn 41 = .ok (.iaload, 1) := by decide +kernel
theorem dX8_drawn_42 : decode cX8_drawn 42 = .ok (.iadd, 1) := by decide +kernel
theorem dX8_drawn_43 : decode cX8_drawn 43 = .ok (.i2l, 1) := by decide +kernel
theorem dX8_drawn_44 : decode cX8_drawn 44 = .ok (.invokestatic 79, 3) := by decide +kernel
theorem dX8_drawn_47 : decode cX8_drawn 47 = .ok (.ifCond .eq 7, 3) := by decide +kernel
theorem dX8_drawn_50 : decode cX8_drawn 50 = .ok (.iconst 0, 1) := by decide +kernel
theorem dX8_drawn_51 : decode cX8_drawn 51 = .ok (.goto 4, 3) := by decide +kernel
theorem dX8_drawn_54 : decode cX8_drawn 54 = .ok (.iconst 1, 1) := by decide +kernel
theorem dX8_drawn_55 : decode cX8_drawn 55 = .ok (.invokevirtual 150, 3) := by decide +kernel
theorem dX8_drawn_58 : decode cX8_drawn 58 = .ok (.ifCond .eq 5, 3) := by decide +kernel
theorem dX8_drawn_61 : decode cX8_drawn 61 = .ok (.iconst 0, 1) := by decide +kernel
theorem dX8_drawn_62 : decode cX8_drawn 62 = .ok (.ireturn, 1) := by decide +kernel
theorem dX8_drawn_63 : decode cX8_drawn 63 = .ok (.aload_n 0, 1) := by decide +kernel
theorem dX8_drawn_64 : decode cX8_drawn 64 = .ok (.aload_n 0, 1) := by decide +kernel
theorem dX8_drawn_65 : decode cX8_drawn 65 = .ok (.getfield 13, 3) := by decide +kernel
theorem dX8_drawn_68 : decode cX8_drawn 68 = .ok (.iload_n 1, 1) := by decide +kernel
theorem dX8_drawn_69 : decode cX8_drawn 69 = .ok (.iload_n 2, 1) := by decide +kernel
theorem dX8_drawn_70 : decode cX8_drawn 70 = .ok (.aload_n 0, 1) := by decide +kernel
theorem dX8_drawn_71 : decode cX8_drawn 71 = .ok (.getfield 59, 3) := by decide +kernel
theorem dX8_drawn_74 : decode cX8_drawn 74 = .ok (.iconst 0, 1) := by decide +kernel
theorem dX8_drawn_75 : decode cX8_drawn 75 = .ok (.iaload, 1) := by decide +kernel
theorem dX8_drawn_76 : decode cX8_drawn 76 = .ok (.isub, 1) := by decide +kernel
theorem dX8_drawn_77 : decode cX8_drawn 77 = .ok (.invokevirtual 252, 3) := by decide +kernel
theorem dX8_drawn_80 : decode cX8_drawn 80 = .ok (.ireturn, 1) := by decide +kernel
theorem dX8_does_0 : decode cX8_does 0 = .ok (.iload_n 1, 1) := by decide +kernel
theorem dX8_does_1 : decode cX8_does 1 = .ok (.tableswitch 240 1 9 #[51, 65, 86, 86, 112, 136, 160, 190, 212], 51) := by decide +kernel
theorem dX8_does_52 : decode cX8_does 52 = .ok (.aload_n 0, 1) := by decide +kernel
theorem dX8_does_53 : decode cX8_does 53 = .ok (.getfield 16, 3) := by decide +kernel
theorem dX8_does_56 : decode cX8_does 56 = .ok (.bipush 100, 2) := by decide +kernel
theorem dX8_does_58 : decode cX8_does 58 = .ok (.iload_n 2, 1) := by decide +kernel
theorem dX8_does_59 : decode cX8_does 59 = .ok (.imul, 1) := by decide +kernel
theorem dX8_does_60 : decode cX8_does 60 = .ok (.iload_n 3, 1) := by decide +kernel
theorem dX8_does_61 : decode cX8_does 61 = .ok (.iadd, 1) := by decide +kernel
theorem dX8_does_62 : decode cX8_does 62 = .ok (.invokestatic 233, 3) := by decide +kernel
theorem dX8_does_65 : decode cX8_does 65 = .ok (.ireturn, 1) := by decide +kernel
theorem dX8_does_66 : decode cX8_does 66 = .ok (.iload_n 2, 1) := by decide +kernel
theorem dX8_does_67 : decode cX8_does 67 = .ok (.ifCond .ne 18, 3) := by decide +kernel
theorem dX8_does_70 : decode cX8_does 70 = .ok (.aload_n 0, 1) := by decide +kernel
theorem dX8_does_71 : decode cX8_does 71 = .ok (.getfield 16, 3) := by decide +kernel
theorem dX8_does_74 : decode cX8_does 74 = .ok (.iload_n 3, 1) := by decide +kernel
theorem dX8_does_75 : decode cX8_does 75 = .ok (.invokestatic 240, 3) := by decide +kernel
theorem dX8_does_78 : decode cX8_does 78 = .ok (.ifCond .eq 7, 3) := by decide +kernel
theorem dX8_does_81 : decode cX8_does 81 = .ok (.iconst 1, 1) := by decide +kernel
theorem dX8_does_82 : decode cX8_does 82 = .ok (.goto 4, 3) := by decide +kernel
theorem dX8_does_85 : decode cX8_does 85 = .ok (.iconst 0, 1) := by decide +kernel
theorem dX8_does_86 : decode cX8_does 86 = .ok (.ireturn, 1) := by decide +kernel
theorem dX8_does_87 : decode cX8_does 87 = .ok (.iload_n 2, 1) := by decide +kernel
theorem dX8_does_88 : decode cX8_does 88 = .ok (.ifCond .eq 5, 3) := by decide +kernel
theorem dX8_does_91 : decode cX8_does 91 = .ok (.iconst 0, 1) := by decide +kernel
theorem dX8_does_92 : decode cX8_does 92 = .ok (.ireturn, 1) := by decide +kernel
theorem dX8_does_93 : decode cX8_does 93 = .ok (.aload_n 0, 1) := by decide +kernel
theorem dX8_does_94 : decode cX8_does 94 = .ok (.getfield 16, 3) := by decide +kernel
theorem dX8_does_97 : decode cX8_does 97 = .ok (.iload_n 1, 1) := by decide +kernel
theorem dX8_does_98 : decode cX8_does 98 = .ok (.iconst 3, 1) := by decide +kernel
theorem dX8_does_99 : decode cX8_does 99 = .ok (.if_icmp .ne 7, 3) := by decide +kernel
theorem dX8_does_102 : decode cX8_does 102 = .ok (.iload_n 3, 1) := by decide +kernel
theorem dX8_does_103 : decode cX8_does 103 = .ok (.goto 5, 3) := by decide +kernel
theorem dX8_does_106 : decode cX8_does 106 = .ok (.iload_n 3, 1) := by decide +kernel
theorem dX8_does_107 : decode cX8_does 107 = .ok (.ineg, 1) := by decide +kernel
theorem dX8_does_108 : decode cX8_does 108 = .ok (.invokestatic 214, 3) := by decide +kernel
theorem dX8_does_111 : decode cX8_does 111 = .ok (.iconst 1, 1) := by decide +kernel
theorem dX8_does_112 : decode cX8_does 112 = .ok (.ireturn, 1) := by decide +kernel
theorem dX8_does_113 : decode cX8_does 113 = .ok (.iload_n 2, 1) := by decide +kernel
theorem dX8_does_114 : decode cX8_does 114 = .ok (.ifCond .ne 21, 3) := by decide +kernel
theorem dX8_does_117 : decode cX8_does 117 = .ok (.iload_n 3, 1) := by decide +kernel
theorem dX8_does_118 : decode cX8_does 118 = .ok (.ifCond .ne 17, 3) := by decide +kernel
theorem dX8_does_121 : decode cX8_does 121 = .ok (.aload_n 0, 1) := by decide +kernel
theorem dX8_does_122 : decode cX8_does 122 = .ok (.getfield 16, 3) := by decide +kernel
theorem dX8_does_125 : decode cX8_does 125 = .ok (.invokestatic 243, 3) := by decide +kernel
theorem dX8_does_128 : decode cX8_does 128 = .ok (.ifCond .eq 7, 3) := by decide +kernel
theorem dX8_does_131 : decode cX8_does 131 = .ok (.iconst 1, 1) := by decide +kernel
theorem dX8_does_132 : decode cX8_does 132 = .ok (.goto 4, 3) := by decide +kernel
theorem dX8_does_135 : decode cX8_does 135 = .ok (.iconst 0, 1) := by decide +kernel
theorem dX8_does_136 : decode cX8_does 136 = .ok (.ireturn, 1) := by decide +kernel
theorem dX8_does_137 : decode cX8_does 137 = .ok (.iload_n 2, 1) := by decide +kernel
theorem dX8_does_138 : decode cX8_does 138 = .ok (.ifCond .ne 21, 3) := by decide +kernel
theorem dX8_does_141 : decode cX8_does 141 = .ok (.iload_n 3, 1) := by decide +kernel
theorem dX8_does_142 : decode cX8_does 142 = .ok (.ifCond .ne 17, 3) := by decide +kernel
theorem dX8_does_145 : decode cX8_does 145 = .ok (.aload_n 0, 1) := by decide +kernel
theorem dX8_does_146 : decode cX8_does 146 = .ok (.getfield 16, 3) := by decide +kernel
theorem dX8_does_149 : decode cX8_does 149 = .ok (.invokestatic 222, 3) := by decide +kernel
theorem dX8_does_152 : decode cX8_does 152 = .ok (.ifCond .eq 7, 3) := by decide +kernel
theorem dX8_does_155 : decode cX8_does 155 = .ok (.iconst 1, 1) := by decide +kernel
theorem dX8_does_156 : decode cX8_does 156 = .ok (.goto 4, 3) := by decide +kernel
theorem dX8_does_159 : decode cX8_does 159 = .ok (.iconst 0, 1) := by decide +kernel
theorem dX8_does_160 : decode cX8_does 160 = .ok (.ireturn, 1) := by decide +kernel
theorem dX8_does_161 : decode cX8_does 161 = .ok (.iload_n 2, 1) := by decide +kernel
theorem dX8_does_162 : decode cX8_does 162 = .ok (.ifCond .ne 27, 3) := by decide +kernel
theorem dX8_does_165 : decode cX8_does 165 = .ok (.aload_n 0, 1) := by decide +kernel
theorem dX8_does_166 : decode cX8_does 166 = .ok (.getfield 16, 3) := by decide +kernel
theorem dX8_does_169 : decode cX8_does 169 = .ok (.iconst 0, 1) := by decide +kernel
theorem dX8_does_170 : decode cX8_does 170 = .ok (.aload_n 0, 1) := by decide +kernel
theorem dX8_does_171 : decode cX8_does 171 = .ok (.getfield 16, 3) := by decide +kernel
theorem dX8_does_174 : decode cX8_does 174 = .ok (.sipush 180, 3) := by decide +kernel
theorem dX8_does_177 : decode cX8_does 177 = .ok (.iaload, 1) := by decide +kernel
theorem dX8_does_178 : decode cX8_does 178 = .ok (.invokestatic 114, 3) := by decide +kernel
theorem dX8_does_181 : decode cX8_does 181 = .ok (.iload_n 3, 1) := by decide +kernel
theorem dX8_does_182 : decode cX8_does 182 = .ok (.if_icmp .ne 7, 3) := by decide +kernel
theorem dX8_does_185 : decode cX8_does 185 = .ok (.iconst 1, 1) := by decide +kernel
theorem dX8_does_186 : decode cX8_does 186 = .ok (.goto 4, 3) := by decide +kernel
theorem dX8_does_189 : decode cX8_does 189 = .ok (.iconst 0, 1) := by decide +kernel
theorem dX8_does_190 : decode cX8_does 190 = .ok (.ireturn, 1) := by decide +kernel
theorem dX8_does_191 : decode cX8_does 191 = .ok (.iload_n 2, 1) := by decide +kernel
theorem dX8_does_192 : decode cX8_does 192 = .ok (.ifCond .ne 19, 3) := by decide +kernel
theorem dX8_does_195 : decode cX8_does 195 = .ok (.aload_n 0, 1) := by decide +kernel
theorem dX8_does_196 : decode cX8_does 196 = .ok (.getfield 16, 3) := by decide +kernel
theorem dX8_does_199 : decode cX8_does 199 = .ok (.sipush 181, 3) := by decide +kernel
theorem dX8_does_202 : decode cX8_does 202 = .ok (.iaload, 1) := by decide +kernel
theorem dX8_does_203 : decode cX8_does 203 = .ok (.iload_n 3, 1) := by decide +kernel
theorem dX8_does_204 : decode cX8_does 204 = .ok (.if_icmp .ne 7, 3) := by decide +kernel
theorem dX8_does_207 : decode cX8_does 207 = .ok (.iconst 1, 1) := by decide +kernel
theorem dX8_does_208 : decode cX8_does 208 = .ok (.goto 4, 3) := by decide +kernel
theorem dX8_does_211 : decode cX8_does 211 = .ok (.iconst 0, 1) := by decide +kernel
theorem dX8_does_212 : decode cX8_does 212 = .ok (.ireturn, 1) := by decide +kernel
theorem dX8_does_213 : decode cX8_does 213 = .ok (.aload_n 0, 1) := by decide +kernel
theorem dX8_does_214 : decode cX8_does 214 = .ok (.aload_n 0, 1) := by decide +kernel
theorem dX8_does_215 : decode cX8_does 215 = .ok (.getfield 16, 3) := by decide +kernel
theorem dX8_does_218 : decode cX8_does 218 = .ok (.invokevirtual 249, 3) := by decide +kernel
theorem dX8_does_221 : decode cX8_does 221 = .ok (.iload_n 2, 1) := by decide +kernel
theorem dX8_does_222 : decode cX8_does 222 = .ok (.ifCond .ne 17, 3) := by decide +kernel
theorem dX8_does_225 : decode cX8_does 225 = .ok (.aload_n 0, 1) := by decide +kernel
theorem dX8_does_226 : decode cX8_does 226 = .ok (.getfield 56, 3) := by decide +kernel
theorem dX8_does_229 : decode cX8_does 229 = .ok (.iconst 0, 1) := by decide +kernel
theorem dX8_does_230 : decode cX8_does 230 = .ok (.iaload, 1) := by decide +kernel
theorem dX8_does_231 : decode cX8_does 231 = .ok (.iload_n 3, 1) := by decide +kernel
theorem dX8_does_232 : decode cX8_does 232 = .ok (.if_icmp .ne 7, 3) := by decide +kernel
theorem dX8_does_235 : decode cX8_does 235 = .ok (.iconst 1, 1) := by decide +kernel
theorem dX8_does_236 : decode cX8_does 236 = .ok (.goto 4, 3) := by decide +kernel
theorem dX8_does_239 : decode cX8_does 239 = .ok (.iconst 0, 1) := by decide +kernel
theorem dX8_does_240 : decode cX8_does 240 = .ok (.ireturn, 1) := by decide +kernel
theorem dX8_does_241 : decode cX8_does 241 = .ok (.iconst 0, 1) := by decide +kernel
theorem dX8_does_242 : decode cX8_does 242 = .ok (.ireturn, 1) := by decide +kernel
theorem dX8_tenTo_0 : decode cX8_tenTo 0 = .ok (.lconst 1, 1) := by decide +kernel
theorem dX8_tenTo_1 : decode cX8_tenTo 1 = .ok (.lstore_n 1, 1) := by decide +kernel
theorem dX8_tenTo_2 : decode cX8_tenTo 2 = .ok (.iconst 0, 1) := by decide +kernel
theorem dX8_tenTo_3 : decode cX8_tenTo 3 = .ok (.istore_n 3, 1) := by decide +kernel
theorem dX8_tenTo_4 : decode cX8_tenTo 4 = .ok (.iload_n 3, 1) := by decide +kernel
theorem dX8_tenTo_5 : decode cX8_tenTo 5 = .ok (.iload_n 0, 1) := by decide +kernel
theorem dX8_tenTo_6 : decode cX8_tenTo 6 = .ok (.if_icmp .ge 15, 3) := by decide +kernel
theorem dX8_tenTo_9 : decode cX8_tenTo 9 = .ok (.lload_n 1, 1) := by decide +kernel
theorem dX8_tenTo_10 : decode cX8_tenTo 10 = .ok (.ldc2_w 255, 3) := by decide +kernel
theorem dX8_tenTo_13 : decode cX8_tenTo 13 = .ok (.lmul, 1) := by decide +kernel
theorem dX8_tenTo_14 : decode cX8_tenTo 14 = .ok (.lstore_n 1, 1) := by decide +kernel
theorem dX8_tenTo_15 : decode cX8_tenTo 15 = .ok (.iinc 3 1, 3) := by decide +kernel
theorem dX8_tenTo_18 : decode cX8_tenTo 18 = .ok (.goto (-14), 3) := by decide +kernel
theorem dX8_tenTo_21 : decode cX8_tenTo 21 = .ok (.lload_n 1, 1) := by decide +kernel
theorem dX8_tenTo_22 : decode cX8_tenTo 22 = .ok (.lreturn, 1) := by decide +kernel
theorem dX8_runScript_0 : decode cX8_runScript 0 = .ok (.aload_n 0, 1) := by decide +kernel
theorem dX8_runScript_1 : decode cX8_runScript 1 = .ok (.iload_n 1, 1) := by decide +kernel
theorem dX8_runScript_2 : decode cX8_runScript 2 = .ok (.i2l, 1) := by decide +kernel
theorem dX8_runScript_3 : decode cX8_runScript 3 = .ok (.lconst 1, 1) := by decide +kernel
theorem dX8_runScript_4 : decode cX8_runScript 4 = .ok (.ldc2_w 257, 3) := by decide +kernel
theorem dX8_runScript_7 : decode cX8_runScript 7 = .ok (.invokestatic 79, 3) := by decide +kernel
theorem dX8_runScript_10 : decode cX8_runScript 10 = .ok (.ifCond .eq 23, 3) := by decide +kernel
theorem dX8_runScript_13 : decode cX8_runScript 13 = .ok (.lload_n 2, 1) := by decide +kernel
theorem dX8_runScript_14 : decode cX8_runScript 14 = .ok (.lconst 0, 1) := by decide +kernel
theorem dX8_runScript_15 : decode cX8_runScript 15 = .ok (.iconst 4, 1) := by decide +kernel
theorem dX8_runScript_16 : decode cX8_runScript 16 = .ok (.iload_n 1, 1) := by decide +kernel
theorem dX8_runScript_17 : decode cX8_runScript 17 = .ok (.imul, 1) := by decide +kernel
theorem dX8_runScript_18 : decode cX8_runScript 18 = .ok (.invokestatic 259, 3) := by decide +kernel
theorem dX8_runScript_21 : decode cX8_runScript 21 = .ok (.lconst 1, 1) := by decide +kernel
theorem dX8_runScript_22 : decode cX8_runScript 22 = .ok (.lsub, 1) := by decide +kernel
theorem dX8_runScript_23 : decode cX8_runScript 23 = .ok (.invokestatic 79, 3) := by decide +kernel
theorem dX8_runScript_26 : decode cX8_runScript 26 = .ok (.ifCond .eq 7, 3) := by decide +kernel
theorem dX8_runScript_29 : decode cX8_runScript 29 = .ok (.iconst 0, 1) := by decide +kernel
theorem dX8_runScript_30 : decode cX8_runScript 30 = .ok (.goto 4, 3) := by decide +kernel
theorem dX8_runScript_33 : decode cX8_runScript 33 = .ok (.iconst 1, 1) := by decide +kernel
theorem dX8_runScript_34 : decode cX8_runScript 34 = .ok (.invokevirtual 150, 3) := by decide +kernel
theorem dX8_runScript_37 : decode cX8_runScript 37 = .ok (.ifCond .eq 5, 3) := by decide +kernel
theorem dX8_runScript_40 : decode cX8_runScript 40 = .ok (.iconst 0, 1) := by decide +kernel
theorem dX8_runScript_41 : decode cX8_runScript 41 = .ok (.ireturn, 1) := by decide +kernel
theorem dX8_runScript_42 : decode cX8_runScript 42 = .ok (.aload_n 0, 1) := by decide +kernel
theorem dX8_runScript_43 : decode cX8_runScript 43 = .ok (.getfield 13, 3) := by decide +kernel
theorem dX8_runScript_46 : decode cX8_runScript 46 = .ok (.iconst 0, 1) := by decide +kernel
theorem dX8_runScript_47 : decode cX8_runScript 47 = .ok (.aload_n 0, 1) := by decide +kernel
theorem dX8_runScript_48 : decode cX8_runScript 48 = .ok (.getfield 16, 3) := by decide +kernel
theorem dX8_runScript_51 : decode cX8_runScript 51 = .ok (.iconst 0, 1) := by decide +kernel
theorem dX8_runScript_52 : decode cX8_runScript 52 = .ok (.invokestatic 226, 3) := by decide +kernel
theorem dX8_runScript_55 : decode cX8_runScript 55 = .ok (.iconst 0, 1) := by decide +kernel
theorem dX8_runScript_56 : decode cX8_runScript 56 = .ok (.istore 4, 2) := by decide +kernel
theorem dX8_runScript_58 : decode cX8_runScript 58 = .ok (.iload 4, 2) := by decide +kernel
theorem dX8_runScript_60 : decode cX8_runScript 60 = .ok (.iload_n 1, 1) := by decide +kernel
theorem dX8_runScript_61 : decode cX8_runScript 61 = .ok (.if_icmp .ge 58, 3) := by decide +kernel
theorem dX8_runScript_64 : decode cX8_runScript 64 = .ok (.lload_n 2, 1) := by decide +kernel
theorem dX8_runScript_65 : decode cX8_runScript 65 = .ok (.iconst 4, 1) := by decide +kernel
theorem dX8_runScript_66 : decode cX8_runScript 66 = .ok (.iload_n 1, 1) := by decide +kernel
theorem dX8_runScript_67 : decode cX8_runScript 67 = .ok (.iconst 1, 1) := by decide +kernel
theorem dX8_runScript_68 : decode cX8_runScript 68 = .ok (.isub, 1) := by decide +kernel
theorem dX8_runScript_69 : decode cX8_runScript 69 = .ok (.iload 4, 2) := by decide +kernel
theorem dX8_runScript_71 : decode cX8_runScript 71 = .ok (.isub, 1) := by decide +kernel
theorem dX8_runScript_72 : decode cX8_runScript 72 = .ok (.imul, 1) := by decide +kernel
theorem dX8_runScript_73 : decode cX8_runScript 73 = .ok (.invokestatic 259, 3) := by decide +kernel
theorem dX8_runScript_76 : decode cX8_runScript 76 = .ok (.ldiv, 1) := by decide +kernel
theorem dX8_runScript_77 : decode cX8_runScript 77 = .ok (.ldc2_w 263, 3) := by decide +kernel
theorem dX8_runScript_80 : decode cX8_runScript 80 = .ok (.lrem, 1) := by decide +kernel
theorem dX8_runScript_81 : decode cX8_runScript 81 = .ok (.l2i, 1) := by decide +kernel
theorem dX8_runScript_82 : decode cX8_runScript 82 = .ok (.istore 5, 2) := by decide +kernel
theorem dX8_runScript_84 : decode cX8_runScript 84 = .ok (.aload_n 0, 1) := by decide +kernel
theorem dX8_runScript_85 : decode cX8_runScript 85 = .ok (.iload 5, 2) := by decide +kernel
theorem dX8_runScript_87 : decode cX8_runScript 87 = .ok (.sipush 1000, 3) := by decide +kernel
theorem dX8_runScript_90 : decode cX8_runScript 90 = .ok (.idiv, 1) := by decide +kernel
theorem dX8_runScript_91 : decode cX8_runScript 91 = .ok (.iload 5, 2) := by decide +kernel
theorem dX8_runScript_93 : decode cX8_runScript 93 = .ok (.bipush 100, 2) := by decide +kernel
theorem dX8_runScript_95 : decode cX8_runScript 95 = .ok (.idiv, 1) := by decide +kernel
theorem dX8_runScript_96 : decode cX8_runScript 96 = .ok (.bipush 10, 2) := by decide +kernel
theorem dX8_runScript_98 : decode cX8_runScript 98 = .ok (.irem, 1) := by decide +kernel
theorem dX8_runScript_99 : decode cX8_runScript 99 = .ok (.iload 5, 2) := by decide +kernel
theorem dX8_runScript_101 : decode cX8_runScript 101 = .ok (.bipush 100, 2) := by decide +kernel
theorem dX8_runScript_103 : decode cX8_runScript 103 = .ok (.irem, 1) := by decide +kernel
theorem dX8_runScript_104 : decode cX8_runScript 104 = .ok (.invokevirtual 265, 3) := by decide +kernel
theorem dX8_runScript_107 : decode cX8_runScript 107 = .ok (.ifCond .ne 6, 3) := by decide +kernel
theorem dX8_runScript_110 : decode cX8_runScript 110 = .ok (.iload 4, 2) := by decide +kernel
theorem dX8_runScript_112 : decode cX8_runScript 112 = .ok (.ireturn, 1) := by decide +kernel
theorem dX8_runScript_113 : decode cX8_runScript 113 = .ok (.iinc 4 1, 3) := by decide +kernel
theorem dX8_runScript_116 : decode cX8_runScript 116 = .ok (.goto (-58), 3) := by decide +kernel
theorem dX8_runScript_119 : decode cX8_runScript 119 = .ok (.bipush (-9), 2) := by decide +kernel
theorem dX8_runScript_121 : decode cX8_runScript 121 = .ok (.ireturn, 1) := by decide +kernel
theorem dX8_simulate_0 : decode cX8_simulate 0 = .ok (.aload_n 0, 1) := by decide +kernel
theorem dX8_simulate_1 : decode cX8_simulate 1 = .ok (.iload_n 3, 1) := by decide +kernel
theorem dX8_simulate_2 : decode cX8_simulate 2 = .ok (.i2l, 1) := by decide +kernel
theorem dX8_simulate_3 : decode cX8_simulate 3 = .ok (.lconst 1, 1) := by decide +kernel
theorem dX8_simulate_4 : decode cX8_simulate 4 = .ok (.ldc2_w 269, 3) := by decide +kernel
theorem dX8_simulate_7 : decode cX8_simulate 7 = .ok (.invokestatic 79, 3) := by decide +kernel
theorem dX8_simulate_10 : decode cX8_simulate 10 = .ok (.ifCond .eq 7, 3) := by decide +kernel
theorem dX8_simulate_13 : decode cX8_simulate 13 = .ok (.iconst 0, 1) := by decide +kernel
theorem dX8_simulate_14 : decode cX8_simulate 14 = .ok (.goto 4, 3) := by decide +kernel
theorem dX8_simulate_17 : decode cX8_simulate 17 = .ok (.iconst 1, 1) := by decide +kernel
theorem dX8_simulate_18 : decode cX8_simulate 18 = .ok (.invokevirtual 150, 3) := by decide +kernel
theorem dX8_simulate_21 : decode cX8_simulate 21 = .ok (.ifCond .eq 5, 3) := by decide +kernel
theorem dX8_simulate_24 : decode cX8_simulate 24 = .ok (.iconst 0, 1) := by decide +kernel
theorem dX8_simulate_25 : decode cX8_simulate 25 = .ok (.ireturn, 1) := by decide +kernel
theorem dX8_simulate_26 : decode cX8_simulate 26 = .ok (.aload_n 0, 1) := by decide +kernel
theorem dX8_simulate_27 : decode cX8_simulate 27 = .ok (.getfield 13, 3) := by decide +kernel
theorem dX8_simulate_30 : decode cX8_simulate 30 = .ok (.iconst 0, 1) := by decide +kernel
theorem dX8_simulate_31 : decode cX8_simulate 31 = .ok (.aload_n 0, 1) := by decide +kernel
theorem dX8_simulate_32 : decode cX8_simulate 32 = .ok (.getfield 16, 3) := by decide +kernel
theorem dX8_simulate_35 : decode cX8_simulate 35 = .ok (.iconst 0, 1) := by decide +kernel
theorem dX8_simulate_36 : decode cX8_simulate 36 = .ok (.invokestatic 226, 3) := by decide +kernel
theorem dX8_simulate_39 : decode cX8_simulate 39 = .ok (.lload_n 1, 1) := by decide +kernel
theorem dX8_simulate_40 : decode cX8_simulate 40 = .ok (.lstore 4, 2) := by decide +kernel
theorem dX8_simulate_42 : decode cX8_simulate 42 = .ok (.iconst 0, 1) := by decide +kernel
theorem dX8_simulate_43 : decode cX8_simulate 43 = .ok (.istore 6, 2) := by decide +kernel
theorem dX8_simulate_45 : decode cX8_simulate 45 = .ok (.iload 6, 2) := by decide +kernel
theorem dX8_simulate_47 : decode cX8_simulate 47 = .ok (.iload_n 3, 1) := by decide +kernel
theorem dX8_simulate_48 : decode cX8_simulate 48 = .ok (.if_icmp .ge 156, 3) := by decide +kernel
theorem dX8_simulate_51 : decode cX8_simulate 51 = .ok (.lload 4, 2) := by decide +kernel
theorem dX8_simulate_53 : decode cX8_simulate 53 = .ok (.ldc2_w 271, 3) := by decide +kernel
theorem dX8_simulate_56 : decode cX8_simulate 56 = .ok (.lmul, 1) := by decide +kernel
theorem dX8_simulate_57 : decode cX8_simulate 57 = .ok (.ldc2_w 273, 3) := by decide +kernel
theorem dX8_simulate_60 : decode cX8_simulate 60 = .ok (.ladd, 1) := by decide +kernel
theorem dX8_simulate_61 : decode cX8_simulate 61 = .ok (.lstore 4, 2) := by decide +kernel
theorem dX8_simulate_63 : decode cX8_simulate 63 = .ok (.lload 4, 2) := by decide +kernel
theorem dX8_simulate_65 : decode cX8_simulate 65 = .ok (.bipush 33, 2) := by decide +kernel
theorem dX8_simulate_67 : decode cX8_simulate 67 = .ok (.lushr, 1) := by decide +kernel
theorem dX8_simulate_68 : decode cX8_simulate 68 = .ok (.l2i, 1) := by decide +kernel
theorem dX8_simulate_69 : decode cX8_simulate 69 = .ok (.istore 7, 2) := by decide +kernel
theorem dX8_simulate_71 : decode cX8_simulate 71 = .ok (.iload 7, 2) := by decide +kernel
theorem dX8_simulate_73 : decode cX8_simulate 73 = .ok (.bipush 8, 2) := by decide +kernel
theorem dX8_simulate_75 : decode cX8_simulate 75 = .ok (.idiv, 1) := by decide +kernel
theorem dX8_simulate_76 : decode cX8_simulate 76 = .ok (.bipush 64, 2) := by decide +kernel
theorem dX8_simulate_78 : decode cX8_simulate 78 = .ok (.irem, 1) := by decide +kernel
theorem dX8_simulate_79 : decode cX8_simulate 79 = .ok (.istore 8, 2) := by decide +kernel
theorem dX8_simulate_81 : decode cX8_simulate 81 = .ok (.iload 7, 2) := by decide +kernel
theorem dX8_simulate_83 : decode cX8_simulate 83 = .ok (.bipush 8, 2) := by decide +kernel
theorem dX8_simulate_85 : decode cX8_simulate 85 = .ok (.irem, 1) := by decide +kernel
theorem dX8_simulate_86 : decode cX8_simulate 86 = .ok (.tableswitch 104 0 6 #[42, 42, 42, 61, 61, 78, 93], 42) := by decide +kernel
theorem dX8_simulate_128 : decode cX8_simulate 128 = .ok (.aload_n 0, 1) := by decide +kernel
theorem dX8_simulate_129 : decode cX8_simulate 129 = .ok (.getfield 16, 3) := by decide +kernel
theorem dX8_simulate_132 : decode cX8_simulate 132 = .ok (.bipush 97, 2) := by decide +kernel
theorem dX8_simulate_134 : decode cX8_simulate 134 = .ok (.iload 8, 2) := by decide +kernel
theorem dX8_simulate_136 : decode cX8_simulate 136 = .ok (.bipush 17, 2) := by decide +kernel
theorem dX8_simulate_138 : decode cX8_simulate 138 = .ok (.irem, 1) := by decide +kernel
theorem dX8_simulate_139 : decode cX8_simulate 139 = .ok (.iadd, 1) := by decide +kernel
theorem dX8_simulate_140 : decode cX8_simulate 140 = .ok (.invokestatic 233, 3) := by decide +kernel
theorem dX8_simulate_143 : decode cX8_simulate 143 = .ok (.pop, 1) := by decide +kernel
theorem dX8_simulate_144 : decode cX8_simulate 144 = .ok (.goto 54, 3) := by decide +kernel
theorem dX8_simulate_147 : decode cX8_simulate 147 = .ok (.aload_n 0, 1) := by decide +kernel
theorem dX8_simulate_148 : decode cX8_simulate 148 = .ok (.getfield 16, 3) := by decide +kernel
theorem dX8_simulate_151 : decode cX8_simulate 151 = .ok (.iconst 1, 1) := by decide +kernel
theorem dX8_simulate_152 : decode cX8_simulate 152 = .ok (.iload 8, 2) := by decide +kernel
theorem dX8_simulate_154 : decode cX8_simulate 154 = .ok (.iconst 5, 1) := by decide +kernel
theorem dX8_simulate_155 : decode cX8_simulate 155 = .ok (.irem, 1) := by decide +kernel
theorem dX8_simulate_156 : decode cX8_simulate 156 = .ok (.iadd, 1) := by decide +kernel
theorem dX8_simulate_157 : decode cX8_simulate 157 = .ok (.invokestatic 240, 3) := by decide +kernel
theorem dX8_simulate_160 : decode cX8_simulate 160 = .ok (.pop, 1) := by decide +kernel
theorem dX8_simulate_161 : decode cX8_simulate 161 = .ok (.goto 37, 3) := by decide +kernel
theorem dX8_simulate_164 : decode cX8_simulate 164 = .ok (.aload_n 0, 1) := by decide +kernel
theorem dX8_simulate_165 : decode cX8_simulate 165 = .ok (.getfield 16, 3) := by decide +kernel
theorem dX8_simulate_168 : decode cX8_simulate 168 = .ok (.iload 8, 2) := by decide +kernel
theorem dX8_simulate_170 : decode cX8_simulate 170 = .ok (.bipush 32, 2) := by decide +kernel
theorem dX8_simulate_172 : decode cX8_simulate 172 = .ok (.isub, 1) := by decide +kernel
theorem dX8_simulate_173 : decode cX8_simulate 173 = .ok (.invokestatic 214, 3) := by decide +kernel
theorem dX8_simulate_176 : decode cX8_simulate 176 = .ok (.goto 22, 3) := by decide +kernel
theorem dX8_simulate_179 : decode cX8_simulate 179 = .ok (.aload_n 0, 1) := by decide +kernel
theorem dX8_simulate_180 : decode cX8_simulate 180 = .ok (.getfield 16, 3) := by decide +kernel
theorem dX8_simulate_183 : decode cX8_simulate 183 = .ok (.invokestatic 243, 3) := by decide +kernel
theorem dX8_simulate_186 : decode cX8_simulate 186 = .ok (.pop, 1) := by decide +kernel
theorem dX8_simulate_187 : decode cX8_simulate 187 = .ok (.goto 11, 3) := by decide +kernel
theorem dX8_simulate_190 : decode cX8_simulate 190 = .ok (.aload_n 0, 1) := by decide +kernel
theorem dX8_simulate_191 : decode cX8_simulate 191 = .ok (.getfield 16, 3) := by decide +kernel
theorem dX8_simulate_194 : decode cX8_simulate 194 = .ok (.invokestatic 222, 3) := by decide +kernel
theorem dX8_simulate_197 : decode cX8_simulate 197 = .ok (.pop, 1) := by decide +kernel
theorem dX8_simulate_198 : decode cX8_simulate 198 = .ok (.iinc 6 1, 3) := by decide +kernel
theorem dX8_simulate_201 : decode cX8_simulate 201 = .ok (.goto (-156), 3) := by decide +kernel
theorem dX8_simulate_204 : decode cX8_simulate 204 = .ok (.aload_n 0, 1) := by decide +kernel
theorem dX8_simulate_205 : decode cX8_simulate 205 = .ok (.aload_n 0, 1) := by decide +kernel
theorem dX8_simulate_206 : decode cX8_simulate 206 = .ok (.getfield 16, 3) := by decide +kernel
theorem dX8_simulate_209 : decode cX8_simulate 209 = .ok (.invokevirtual 207, 3) := by decide +kernel
theorem dX8_simulate_212 : decode cX8_simulate 212 = .ok (.sipush 1000, 3) := by decide +kernel
theorem dX8_simulate_215 : decode cX8_simulate 215 = .ok (.aload_n 0, 1) := by decide +kernel
theorem dX8_simulate_216 : decode cX8_simulate 216 = .ok (.getfield 16, 3) := by decide +kernel
theorem dX8_simulate_219 : decode cX8_simulate 219 = .ok (.iconst 0, 1) := by decide +kernel
theorem dX8_simulate_220 : decode cX8_simulate 220 = .ok (.aload_n 0, 1) := by decide +kernel
theorem dX8_simulate_221 : decode cX8_simulate 221 = .ok (.getfield 16, 3) := by decide +kernel
theorem dX8_simulate_224 : decode cX8_simulate 224 = .ok (.sipush 180, 3) := by decide +kernel
theorem dX8_simulate_227 : decode cX8_simulate 227 = .ok (.iaload, 1) := by decide +kernel
theorem dX8_simulate_228 : decode cX8_simulate 228 = .ok (.invokestatic 114, 3) := by decide +kernel
theorem dX8_simulate_231 : decode cX8_simulate 231 = .ok (.imul, 1) := by decide +kernel
theorem dX8_simulate_232 : decode cX8_simulate 232 = .ok (.aload_n 0, 1) := by decide +kernel
theorem dX8_simulate_233 : decode cX8_simulate 233 = .ok (.getfield 193, 3) := by decide +kernel
theorem dX8_simulate_236 : decode cX8_simulate 236 = .ok (.iadd, 1) := by decide +kernel
theorem dX8_simulate_237 : decode cX8_simulate 237 = .ok (.ireturn, 1) := by decide +kernel
theorem dX8_save_0 : decode cX8_save 0 = .ok (.aload_n 0, 1) := by decide +kernel
theorem dX8_save_1 : decode cX8_save 1 = .ok (.iload_n 1, 1) := by decide +kernel
theorem dX8_save_2 : decode cX8_save 2 = .ok (.i2l, 1) := by decide +kernel
theorem dX8_save_3 : decode cX8_save 3 = .ok (.lconst 0, 1) := by decide +kernel
theorem dX8_save_4 : decode cX8_save 4 = .ok (.lconst 1, 1) := by decide +kernel
theorem dX8_save_5 : decode cX8_save 5 = .ok (.invokestatic 79, 3) := by decide +kernel
theorem dX8_save_8 : decode cX8_save 8 = .ok (.ifCond .eq 7, 3) := by decide +kernel
theorem dX8_save_11 : decode cX8_save 11 = .ok (.iconst 0, 1) := by decide +kernel
theorem dX8_save_12 : decode cX8_save 12 = .ok (.goto 4, 3) := by decide +kernel
theorem dX8_save_15 : decode cX8_save 15 = .ok (.iconst 1, 1) := by decide +kernel
theorem dX8_save_16 : decode cX8_save 16 = .ok (.invokevirtual 150, 3) := by decide +kernel
theorem dX8_save_19 : decode cX8_save 19 = .ok (.ifCond .eq 5, 3) := by decide +kernel
theorem dX8_save_22 : decode cX8_save 22 = .ok (.iconst 0, 1) := by decide +kernel
theorem dX8_save_23 : decode cX8_save 23 = .ok (.ireturn, 1) := by decide +kernel
theorem dX8_save_24 : decode cX8_save 24 = .ok (.aload_n 0, 1) := by decide +kernel
theorem dX8_save_25 : decode cX8_save 25 = .ok (.getfield 25, 3) := by decide +kernel
theorem dX8_save_28 : decode cX8_save 28 = .ok (.iload_n 1, 1) := by decide +kernel
theorem dX8_save_29 : decode cX8_save 29 = .ok (.iconst 1, 1) := by decide +kernel
theorem dX8_save_30 : decode cX8_save 30 = .ok (.bastore, 1) := by decide +kernel
theorem dX8_save_31 : decode cX8_save 31 = .ok (.aload_n 0, 1) := by decide +kernel
theorem dX8_save_32 : decode cX8_save 32 = .ok (.getfield 13, 3) := by decide +kernel
theorem dX8_save_35 : decode cX8_save 35 = .ok (.iconst 0, 1) := by decide +kernel
theorem dX8_save_36 : decode cX8_save 36 = .ok (.aload_n 0, 1) := by decide +kernel
theorem dX8_save_37 : decode cX8_save 37 = .ok (.getfield 22, 3) := by decide +kernel
theorem dX8_save_40 : decode cX8_save 40 = .ok (.sipush 184, 3) := by decide +kernel
theorem dX8_save_43 : decode cX8_save 43 = .ok (.iload_n 1, 1) := by decide +kernel
theorem dX8_save_44 : decode cX8_save 44 = .ok (.imul, 1) := by decide +kernel
theorem dX8_save_45 : decode cX8_save 45 = .ok (.invokestatic 226, 3) := by decide +kernel
theorem dX8_save_48 : decode cX8_save 48 = .ok (.aload_n 0, 1) := by decide +kernel
theorem dX8_save_49 : decode cX8_save 49 = .ok (.getfield 13, 3) := by decide +kernel
theorem dX8_save_52 : decode cX8_save 52 = .ok (.iconst 0, 1) := by decide +kernel
theorem dX8_save_53 : decode cX8_save 53 = .ok (.aload_n 0, 1) := by decide +kernel
theorem dX8_save_54 : decode cX8_save 54 = .ok (.getfield 13, 3) := by decide +kernel
theorem dX8_save_57 : decode cX8_save 57 = .ok (.sipush 180, 3) := by decide +kernel
theorem dX8_save_60 : decode cX8_save 60 = .ok (.iaload, 1) := by decide +kernel
theorem dX8_save_61 : decode cX8_save 61 = .ok (.invokestatic 114, 3) := by decide +kernel
theorem dX8_save_64 : decode cX8_save 64 = .ok (.ireturn, 1) := by decide +kernel
theorem dX8_restore_0 : decode cX8_restore 0 = .ok (.aload_n 0, 1) := by decide +kernel
theorem dX8_restore_1 : decode cX8_restore 1 = .ok (.iload_n 1, 1) := by decide +kernel
theorem dX8_restore_2 : decode cX8_restore 2 = .ok (.i2l, 1) := by decide +kernel
theorem dX8_restore_3 : decode cX8_restore 3 = .ok (.lconst 0, 1) := by decide +kernel
theorem dX8_restore_4 : decode cX8_restore 4 = .ok (.lconst 1, 1) := by decide +kernel
theorem dX8_restore_5 : decode cX8_restore 5 = .ok (.invokestatic 79, 3) := by decide +kernel
theorem dX8_restore_8 : decode cX8_restore 8 = .ok (.ifCond .ne 7, 3) := by decide +kernel
theorem dX8_restore_11 : decode cX8_restore 11 = .ok (.iconst 1, 1) := by decide +kernel
theorem dX8_restore_12 : decode cX8_restore 12 = .ok (.goto 17, 3) := by decide +kernel
theorem dX8_restore_15 : decode cX8_restore 15 = .ok (.aload_n 0, 1) := by decide +kernel
theorem dX8_restore_16 : decode cX8_restore 16 = .ok (.getfield 25, 3) := by decide +kernel
theorem dX8_restore_19 : decode cX8_restore 19 = .ok (.iload_n 1, 1) := by decide +kernel
theorem dX8_restore_20 : decode cX8_restore 20 = .ok (.baload, 1) := by decide +kernel
theorem dX8_restore_21 : decode cX8_restore 21 = .ok (.ifCond .ne 7, 3) := by decide +kernel
theorem dX8_restore_24 : decode cX8_restore 24 = .ok (.iconst 2, 1) := by decide +kernel
theorem dX8_restore_25 : decode cX8_restore 25 = .ok (.goto 4, 3) := by decide +kernel
theorem dX8_restore_28 : decode cX8_restore 28 = .ok (.iconst 0, 1) := by decide +kernel
theorem dX8_restore_29 : decode cX8_restore 29 = .ok (.invokevirtual 150, 3) := by decide +kernel
theorem dX8_restore_32 : decode cX8_restore 32 = .ok (.ifCond .eq 5, 3) := by decide +kernel
theorem dX8_restore_35 : decode cX8_restore 35 = .ok (.iconst 0, 1) := by decide +kernel
theorem dX8_restore_36 : decode cX8_restore 36 = .ok (.ireturn, 1) := by decide +kernel
theorem dX8_restore_37 : decode cX8_restore 37 = .ok (.aload_n 0, 1) := by decide +kernel
theorem dX8_restore_38 : decode cX8_restore 38 = .ok (.getfield 22, 3) := by decide +kernel
theorem dX8_restore_41 : decode cX8_restore 41 = .ok (.sipush 184, 3) := by decide +kernel
theorem dX8_restore_44 : decode cX8_restore 44 = .ok (.iload_n 1, 1) := by decide +kernel
theorem dX8_restore_45 : decode cX8_restore 45 = .ok (.imul, 1) := by decide +kernel
theorem dX8_restore_46 : decode cX8_restore 46 = .ok (.aload_n 0, 1) := by decide +kernel
theorem dX8_restore_47 : decode cX8_restore 47 = .ok (.getfield 13, 3) := by decide +kernel
theorem dX8_restore_50 : decode cX8_restore 50 = .ok (.iconst 0, 1) := by decide +kernel
theorem dX8_restore_51 : decode cX8_restore 51 = .ok (.invokestatic 226, 3) := by decide +kernel
theorem dX8_restore_54 : decode cX8_restore 54 = .ok (.aload_n 0, 1) := by decide +kernel
theorem dX8_restore_55 : decode cX8_restore 55 = .ok (.iconst 0, 1) := by decide +kernel
theorem dX8_restore_56 : decode cX8_restore 56 = .ok (.putfield 182, 3) := by decide +kernel
theorem dX8_restore_59 : decode cX8_restore 59 = .ok (.aload_n 0, 1) := by decide +kernel
theorem dX8_restore_60 : decode cX8_restore 60 = .ok (.getfield 13, 3) := by decide +kernel
theorem dX8_restore_63 : decode cX8_restore 63 = .ok (.iconst 0, 1) := by decide +kernel
theorem dX8_restore_64 : decode cX8_restore 64 = .ok (.aload_n 0, 1) := by decide +kernel
theorem dX8_restore_65 : decode cX8_restore 65 = .ok (.getfield 13, 3) := by decide +kernel
theorem dX8_restore_68 : decode cX8_restore 68 = .ok (.sipush 180, 3) := by decide +kernel
theorem dX8_restore_71 : decode cX8_restore 71 = .ok (.iaload, 1) := by decide +kernel
theorem dX8_restore_72 : decode cX8_restore 72 = .ok (.invokestatic 114, 3) := by decide +kernel
theorem dX8_restore_75 : decode cX8_restore 75 = .ok (.ireturn, 1) := by decide +kernel
theorem dL_append_0 : decode cL_append 0 = .ok (.aload_n 2, 1) := by decide +kernel
theorem dL_append_1 : decode cL_append 1 = .ok (.iconst 0, 1) := by decide +kernel
theorem dL_append_2 : decode cL_append 2 = .ok (.aload_n 0, 1) := by decide +kernel
theorem dL_append_3 : decode cL_append 3 = .ok (.iload_n 1, 1) := by decide +kernel
theorem dL_append_4 : decode cL_append 4 = .ok (.invokevirtual 7, 3) := by decide +kernel
theorem dL_append_7 : decode cL_append 7 = .ok (.i2l, 1) := by decide +kernel
theorem dL_append_8 : decode cL_append 8 = .ok (.lastore, 1) := by decide +kernel
theorem dL_append_9 : decode cL_append 9 = .ok (.goto 9, 3) := by decide +kernel
theorem dL_append_12 : decode cL_append 12 = .ok (.astore_n 3, 1) := by decide +kernel
theorem dL_append_13 : decode cL_append 13 = .ok (.iconst 1, 1) := by decide +kernel
theorem dL_append_14 : decode cL_append 14 = .ok (.ireturn, 1) := by decide +kernel
theorem dL_append_15 : decode cL_append 15 = .ok (.astore_n 3, 1) := by decide +kernel
theorem dL_append_16 : decode cL_append 16 = .ok (.iconst 2, 1) := by decide +kernel
theorem dL_append_17 : decode cL_append 17 = .ok (.ireturn, 1) := by decide +kernel
theorem dL_append_18 : decode cL_append 18 = .ok (.iconst 0, 1) := by decide +kernel
theorem dL_append_19 : decode cL_append 19 = .ok (.ireturn, 1) := by decide +kernel
theorem dL_load_0 : decode cL_load 0 = .ok (.aload_n 1, 1) := by decide +kernel
theorem dL_load_1 : decode cL_load 1 = .ok (.iconst 0, 1) := by decide +kernel
theorem dL_load_2 : decode cL_load 2 = .ok (.aload_n 0, 1) := by decide +kernel
theorem dL_load_3 : decode cL_load 3 = .ok (.invokevirtual 17, 3) := by decide +kernel
theorem dL_load_6 : decode cL_load 6 = .ok (.i2l, 1) := by decide +kernel
theorem dL_load_7 : decode cL_load 7 = .ok (.lastore, 1) := by decide +kernel
theorem dL_load_8 : decode cL_load 8 = .ok (.goto 6, 3) := by decide +kernel
theorem dL_load_11 : decode cL_load 11 = .ok (.astore_n 2, 1) := by decide +kernel
theorem dL_load_12 : decode cL_load 12 = .ok (.iconst 1, 1) := by decide +kernel
theorem dL_load_13 : decode cL_load 13 = .ok (.ireturn, 1) := by decide +kernel
theorem dL_load_14 : decode cL_load 14 = .ok (.iconst 0, 1) := by decide +kernel
theorem dL_load_15 : decode cL_load 15 = .ok (.ireturn, 1) := by decide +kernel
theorem dL_about_0 : decode cL_about 0 = .ok (.aload_n 2, 1) := by decide +kernel
theorem dL_about_1 : decode cL_about 1 = .ok (.iconst 0, 1) := by decide +kernel
theorem dL_about_2 : decode cL_about 2 = .ok (.aload_n 0, 1) := by decide +kernel
theorem dL_about_3 : decode cL_about 3 = .ok (.iload_n 1, 1) := by decide +kernel
theorem dL_about_4 : decode cL_about 4 = .ok (.invokevirtual 21, 3) := by decide +kernel
theorem dL_about_7 : decode cL_about 7 = .ok (.i2l, 1) := by decide +kernel
theorem dL_about_8 : decode cL_about 8 = .ok (.lastore, 1) := by decide +kernel
theorem dL_about_9 : decode cL_about 9 = .ok (.goto 6, 3) := by decide +kernel
theorem dL_about_12 : decode cL_about 12 = .ok (.astore_n 3, 1) := by decide +kernel
theorem dL_about_13 : decode cL_about 13 = .ok (.iconst 1, 1) := by decide +kernel
theorem dL_about_14 : decode cL_about 14 = .ok (.ireturn, 1) := by decide +kernel
theorem dL_about_15 : decode cL_about 15 = .ok (.iconst 0, 1) := by decide +kernel
theorem dL_about_16 : decode cL_about 16 = .ok (.ireturn, 1) := by decide +kernel
theorem dL_place_0 : decode cL_place 0 = .ok (.aload_n 3, 1) := by decide +kernel
theorem dL_place_1 : decode cL_place 1 = .ok (.iconst 0, 1) := by decide +kernel
theorem dL_place_2 : decode cL_place 2 = .ok (.aload_n 0, 1) := by decide +kernel
theorem dL_place_3 : decode cL_place 3 = .ok (.iload_n 1, 1) := by decide +kernel
theorem dL_place_4 : decode cL_place 4 = .ok (.iload_n 2, 1) := by decide +kernel
theorem dL_place_5 : decode cL_place 5 = .ok (.invokevirtual 24, 3) := by decide +kernel
theorem dL_place_8 : decode cL_place 8 = .ok (.i2l, 1) := by decide +kernel
theorem dL_place_9 : decode cL_place 9 = .ok (.lastore, 1) := by decide +kernel
theorem dL_place_10 : decode cL_place 10 = .ok (.goto 11, 3) := by decide +kernel
theorem dL_place_13 : decode cL_place 13 = .ok (.astore 4, 2) := by decide +kernel
theorem dL_place_15 : decode cL_place 15 = .ok (.iconst 1, 1) := by decide +kernel
theorem dL_place_16 : decode cL_place 16 = .ok (.ireturn, 1) := by decide +kernel
theorem dL_place_17 : decode cL_place 17 = .ok (.astore 4, 2) := by decide +kernel
theorem dL_place_19 : decode cL_place 19 = .ok (.iconst 2, 1) := by decide +kernel
theorem dL_place_20 : decode cL_place 20 = .ok (.ireturn, 1) := by decide +kernel
theorem dL_place_21 : decode cL_place 21 = .ok (.iconst 0, 1) := by decide +kernel
theorem dL_place_22 : decode cL_place 22 = .ok (.ireturn, 1) := by decide +kernel
theorem dL_selection_0 : decode cL_selection 0 = .ok (.aload_n 2, 1) := by decide +kernel
theorem dL_selection_1 : decode cL_selection 1 = .ok (.iconst 0, 1) := by decide +kernel
theorem dL_selection_2 : decode cL_selection 2 = .ok (.aload_n 0, 1) := by decide +kernel
theorem dL_selection_3 : decode cL_selection 3 = .ok (.iload_n 1, 1) := by decide +kernel
theorem dL_selection_4 : decode cL_selection 4 = .ok (.invokevirtual 30, 3) := by decide +kernel
theorem dL_selection_7 : decode cL_selection 7 = .ok (.i2l, 1) := by decide +kernel
theorem dL_selection_8 : decode cL_selection 8 = .ok (.lastore, 1) := by decide +kernel
theorem dL_selection_9 : decode cL_selection 9 = .ok (.goto 6, 3) := by decide +kernel
theorem dL_selection_12 : decode cL_selection 12 = .ok (.astore_n 3, 1) := by decide +kernel
theorem dL_selection_13 : decode cL_selection 13 = .ok (.iconst 1, 1) := by decide +kernel
theorem dL_selection_14 : decode cL_selection 14 = .ok (.ireturn, 1) := by decide +kernel
theorem dL_selection_15 : decode cL_selection 15 = .ok (.iconst 0, 1) := by decide +kernel
theorem dL_selection_16 : decode cL_selection 16 = .ok (.ireturn, 1) := by decide +kernel
theorem dL_linearAt_0 : decode cL_linearAt 0 = .ok (.aload_n 2, 1) := by decide +kernel
theorem dL_linearAt_1 : decode cL_linearAt 1 = .ok (.iconst 0, 1) := by decide +kernel
theorem dL_linearAt_2 : decode cL_linearAt 2 = .ok (.aload_n 0, 1) := by decide +kernel
theorem dL_linearAt_3 : decode cL_linearAt 3 = .ok (.iload_n 1, 1) := by decide +kernel
theorem dL_linearAt_4 : decode cL_linearAt 4 = .ok (.invokevirtual 33, 3) := by decide +kernel
theorem dL_linearAt_7 : decode cL_linearAt 7 = .ok (.i2l, 1) := by decide +kernel
theorem dL_linearAt_8 : decode cL_linearAt 8 = .ok (.lastore, 1) := by decide +kernel
theorem dL_linearAt_9 : decode cL_linearAt 9 = .ok (.goto 6, 3) := by decide +kernel
theorem dL_linearAt_12 : decode cL_linearAt 12 = .ok (.astore_n 3, 1) := by decide +kernel
theorem dL_linearAt_13 : decode cL_linearAt 13 = .ok (.iconst 1, 1) := by decide +kernel
theorem dL_linearAt_14 : decode cL_linearAt 14 = .ok (.ireturn, 1) := by decide +kernel
theorem dL_linearAt_15 : decode cL_linearAt 15 = .ok (.iconst 0, 1) := by decide +kernel
theorem dL_linearAt_16 : decode cL_linearAt 16 = .ok (.ireturn, 1) := by decide +kernel
theorem dL_moveTo_0 : decode cL_moveTo 0 = .ok (.aload_n 2, 1) := by decide +kernel
theorem dL_moveTo_1 : decode cL_moveTo 1 = .ok (.iconst 0, 1) := by decide +kernel
theorem dL_moveTo_2 : decode cL_moveTo 2 = .ok (.aload_n 0, 1) := by decide +kernel
theorem dL_moveTo_3 : decode cL_moveTo 3 = .ok (.iload_n 1, 1) := by decide +kernel
theorem dL_moveTo_4 : decode cL_moveTo 4 = .ok (.invokevirtual 36, 3) := by decide +kernel
theorem dL_moveTo_7 : decode cL_moveTo 7 = .ok (.i2l, 1) := by decide +kernel
theorem dL_moveTo_8 : decode cL_moveTo 8 = .ok (.lastore, 1) := by decide +kernel
theorem dL_moveTo_9 : decode cL_moveTo 9 = .ok (.goto 6, 3) := by decide +kernel
theorem dL_moveTo_12 : decode cL_moveTo 12 = .ok (.astore_n 3, 1) := by decide +kernel
theorem dL_moveTo_13 : decode cL_moveTo 13 = .ok (.iconst 1, 1) := by decide +kernel
theorem dL_moveTo_14 : decode cL_moveTo 14 = .ok (.ireturn, 1) := by decide +kernel
theorem dL_moveTo_15 : decode cL_moveTo 15 = .ok (.iconst 0, 1) := by decide +kernel
theorem dL_moveTo_16 : decode cL_moveTo 16 = .ok (.ireturn, 1) := by decide +kernel
theorem dL_moveBy_0 : decode cL_moveBy 0 = .ok (.aload_n 2, 1) := by decide +kernel
theorem dL_moveBy_1 : decode cL_moveBy 1 = .ok (.iconst 0, 1) := by decide +kernel
theorem dL_moveBy_2 : decode cL_moveBy 2 = .ok (.aload_n 0, 1) := by decide +kernel
theorem dL_moveBy_3 : decode cL_moveBy 3 = .ok (.iload_n 1, 1) := by decide +kernel
theorem dL_moveBy_4 : decode cL_moveBy 4 = .ok (.invokevirtual 39, 3) := by decide +kernel
theorem dL_moveBy_7 : decode cL_moveBy 7 = .ok (.i2l, 1) := by decide +kernel
theorem dL_moveBy_8 : decode cL_moveBy 8 = .ok (.lastore, 1) := by decide +kernel
theorem dL_moveBy_9 : decode cL_moveBy 9 = .ok (.goto 6, 3) := by decide +kernel
theorem dL_moveBy_12 : decode cL_moveBy 12 = .ok (.astore_n 3, 1) := by decide +kernel
theorem dL_moveBy_13 : decode cL_moveBy 13 = .ok (.iconst 1, 1) := by decide +kernel
theorem dL_moveBy_14 : decode cL_moveBy 14 = .ok (.ireturn, 1) := by decide +kernel
theorem dL_moveBy_15 : decode cL_moveBy 15 = .ok (.iconst 0, 1) := by decide +kernel
theorem dL_moveBy_16 : decode cL_moveBy 16 = .ok (.ireturn, 1) := by decide +kernel
theorem dL_extend_0 : decode cL_extend 0 = .ok (.aload_n 2, 1) := by decide +kernel
theorem dL_extend_1 : decode cL_extend 1 = .ok (.iconst 0, 1) := by decide +kernel
theorem dL_extend_2 : decode cL_extend 2 = .ok (.aload_n 0, 1) := by decide +kernel
theorem dL_extend_3 : decode cL_extend 3 = .ok (.iload_n 1, 1) := by decide +kernel
theorem dL_extend_4 : decode cL_extend 4 = .ok (.invokevirtual 42, 3) := by decide +kernel
theorem dL_extend_7 : decode cL_extend 7 = .ok (.i2l, 1) := by decide +kernel
theorem dL_extend_8 : decode cL_extend 8 = .ok (.lastore, 1) := by decide +kernel
theorem dL_extend_9 : decode cL_extend 9 = .ok (.goto 6, 3) := by decide +kernel
theorem dL_extend_12 : decode cL_extend 12 = .ok (.astore_n 3, 1) := by decide +kernel
theorem dL_extend_13 : decode cL_extend 13 = .ok (.iconst 1, 1) := by decide +kernel
theorem dL_extend_14 : decode cL_extend 14 = .ok (.ireturn, 1) := by decide +kernel
theorem dL_extend_15 : decode cL_extend 15 = .ok (.iconst 0, 1) := by decide +kernel
theorem dL_extend_16 : decode cL_extend 16 = .ok (.ireturn, 1) := by decide +kernel
theorem dL_grow_0 : decode cL_grow 0 = .ok (.aload_n 1, 1) := by decide +kernel
theorem dL_grow_1 : decode cL_grow 1 = .ok (.iconst 0, 1) := by decide +kernel
theorem dL_grow_2 : decode cL_grow 2 = .ok (.aload_n 0, 1) := by decide +kernel
theorem dL_grow_3 : decode cL_grow 3 = .ok (.invokevirtual 46, 3) := by decide +kernel
theorem dL_grow_6 : decode cL_grow 6 = .ok (.i2l, 1) := by decide +kernel
theorem dL_grow_7 : decode cL_grow 7 = .ok (.lastore, 1) := by decide +kernel
theorem dL_grow_8 : decode cL_grow 8 = .ok (.goto 6, 3) := by decide +kernel
theorem dL_grow_11 : decode cL_grow 11 = .ok (.astore_n 2, 1) := by decide +kernel
theorem dL_grow_12 : decode cL_grow 12 = .ok (.iconst 1, 1) := by decide +kernel
theorem dL_grow_13 : decode cL_grow 13 = .ok (.ireturn, 1) := by decide +kernel
theorem dL_grow_14 : decode cL_grow 14 = .ok (.iconst 0, 1) := by decide +kernel
theorem dL_grow_15 : decode cL_grow 15 = .ok (.ireturn, 1) := by decide +kernel
theorem dL_copy_0 : decode cL_copy 0 = .ok (.aload_n 1, 1) := by decide +kernel
theorem dL_copy_1 : decode cL_copy 1 = .ok (.iconst 0, 1) := by decide +kernel
theorem dL_copy_2 : decode cL_copy 2 = .ok (.aload_n 0, 1) := by decide +kernel
theorem dL_copy_3 : decode cL_copy 3 = .ok (.invokevirtual 49, 3) := by decide +kernel
theorem dL_copy_6 : decode cL_copy 6 = .ok (.i2l, 1) := by decide +kernel
theorem dL_copy_7 : decode cL_copy 7 = .ok (.lastore, 1) := by decide +kernel
theorem dL_copy_8 : decode cL_copy 8 = .ok (.goto 6, 3) := by decide +kernel
theorem dL_copy_11 : decode cL_copy 11 = .ok (.astore_n 2, 1) := by decide +kernel
theorem dL_copy_12 : decode cL_copy 12 = .ok (.iconst 1, 1) := by decide +kernel
theorem dL_copy_13 : decode cL_copy 13 = .ok (.ireturn, 1) := by decide +kernel
theorem dL_copy_14 : decode cL_copy 14 = .ok (.iconst 0, 1) := by decide +kernel
theorem dL_copy_15 : decode cL_copy 15 = .ok (.ireturn, 1) := by decide +kernel
theorem dL_type_0 : decode cL_type 0 = .ok (.aload_n 2, 1) := by decide +kernel
theorem dL_type_1 : decode cL_type 1 = .ok (.iconst 0, 1) := by decide +kernel
theorem dL_type_2 : decode cL_type 2 = .ok (.aload_n 0, 1) := by decide +kernel
theorem dL_type_3 : decode cL_type 3 = .ok (.iload_n 1, 1) := by decide +kernel
theorem dL_type_4 : decode cL_type 4 = .ok (.invokevirtual 52, 3) := by decide +kernel
theorem dL_type_7 : decode cL_type 7 = .ok (.i2l, 1) := by decide +kernel
theorem dL_type_8 : decode cL_type 8 = .ok (.lastore, 1) := by decide +kernel
theorem dL_type_9 : decode cL_type 9 = .ok (.goto 9, 3) := by decide +kernel
theorem dL_type_12 : decode cL_type 12 = .ok (.astore_n 3, 1) := by decide +kernel
theorem dL_type_13 : decode cL_type 13 = .ok (.iconst 1, 1) := by decide +kernel
theorem dL_type_14 : decode cL_type 14 = .ok (.ireturn, 1) := by decide +kernel
theorem dL_type_15 : decode cL_type 15 = .ok (.astore_n 3, 1) := by decide +kernel
theorem dL_type_16 : decode cL_type 16 = .ok (.iconst 2, 1) := by decide +kernel
theorem dL_type_17 : decode cL_type 17 = .ok (.ireturn, 1) := by decide +kernel
theorem dL_type_18 : decode cL_type 18 = .ok (.iconst 0, 1) := by decide +kernel
theorem dL_type_19 : decode cL_type 19 = .ok (.ireturn, 1) := by decide +kernel
theorem dL_wrap_0 : decode cL_wrap 0 = .ok (.aload_n 2, 1) := by decide +kernel
theorem dL_wrap_1 : decode cL_wrap 1 = .ok (.iconst 0, 1) := by decide +kernel
theorem dL_wrap_2 : decode cL_wrap 2 = .ok (.aload_n 0, 1) := by decide +kernel
theorem dL_wrap_3 : decode cL_wrap 3 = .ok (.iload_n 1, 1) := by decide +kernel
theorem dL_wrap_4 : decode cL_wrap 4 = .ok (.invokevirtual 55, 3) := by decide +kernel
theorem dL_wrap_7 : decode cL_wrap 7 = .ok (.i2l, 1) := by decide +kernel
theorem dL_wrap_8 : decode cL_wrap 8 = .ok (.lastore, 1) := by decide +kernel
theorem dL_wrap_9 : decode cL_wrap 9 = .ok (.goto 9, 3) := by decide +kernel
theorem dL_wrap_12 : decode cL_wrap 12 = .ok (.astore_n 3, 1) := by decide +kernel
theorem dL_wrap_13 : decode cL_wrap 13 = .ok (.iconst 1, 1) := by decide +kernel
theorem dL_wrap_14 : decode cL_wrap 14 = .ok (.ireturn, 1) := by decide +kernel
theorem dL_wrap_15 : decode cL_wrap 15 = .ok (.astore_n 3, 1) := by decide +kernel
theorem dL_wrap_16 : decode cL_wrap 16 = .ok (.iconst 2, 1) := by decide +kernel
theorem dL_wrap_17 : decode cL_wrap 17 = .ok (.ireturn, 1) := by decide +kernel
theorem dL_wrap_18 : decode cL_wrap 18 = .ok (.iconst 0, 1) := by decide +kernel
theorem dL_wrap_19 : decode cL_wrap 19 = .ok (.ireturn, 1) := by decide +kernel
theorem dL_backspace_0 : decode cL_backspace 0 = .ok (.aload_n 1, 1) := by decide +kernel
theorem dL_backspace_1 : decode cL_backspace 1 = .ok (.iconst 0, 1) := by decide +kernel
theorem dL_backspace_2 : decode cL_backspace 2 = .ok (.aload_n 0, 1) := by decide +kernel
theorem dL_backspace_3 : decode cL_backspace 3 = .ok (.invokevirtual 58, 3) := by decide +kernel
theorem dL_backspace_6 : decode cL_backspace 6 = .ok (.i2l, 1) := by decide +kernel
theorem dL_backspace_7 : decode cL_backspace 7 = .ok (.lastore, 1) := by decide +kernel
theorem dL_backspace_8 : decode cL_backspace 8 = .ok (.goto 6, 3) := by decide +kernel
theorem dL_backspace_11 : decode cL_backspace 11 = .ok (.astore_n 2, 1) := by decide +kernel
theorem dL_backspace_12 : decode cL_backspace 12 = .ok (.iconst 1, 1) := by decide +kernel
theorem dL_backspace_13 : decode cL_backspace 13 = .ok (.ireturn, 1) := by decide +kernel
theorem dL_backspace_14 : decode cL_backspace 14 = .ok (.iconst 0, 1) := by decide +kernel
theorem dL_backspace_15 : decode cL_backspace 15 = .ok (.ireturn, 1) := by decide +kernel
theorem dL_paste_0 : decode cL_paste 0 = .ok (.aload_n 1, 1) := by decide +kernel
theorem dL_paste_1 : decode cL_paste 1 = .ok (.iconst 0, 1) := by decide +kernel
theorem dL_paste_2 : decode cL_paste 2 = .ok (.aload_n 0, 1) := by decide +kernel
theorem dL_paste_3 : decode cL_paste 3 = .ok (.invokevirtual 61, 3) := by decide +kernel
theorem dL_paste_6 : decode cL_paste 6 = .ok (.i2l, 1) := by decide +kernel
theorem dL_paste_7 : decode cL_paste 7 = .ok (.lastore, 1) := by decide +kernel
theorem dL_paste_8 : decode cL_paste 8 = .ok (.goto 6, 3) := by decide +kernel
theorem dL_paste_11 : decode cL_paste 11 = .ok (.astore_n 2, 1) := by decide +kernel
theorem dL_paste_12 : decode cL_paste 12 = .ok (.iconst 1, 1) := by decide +kernel
theorem dL_paste_13 : decode cL_paste 13 = .ok (.ireturn, 1) := by decide +kernel
theorem dL_paste_14 : decode cL_paste 14 = .ok (.iconst 0, 1) := by decide +kernel
theorem dL_paste_15 : decode cL_paste 15 = .ok (.ireturn, 1) := by decide +kernel
theorem dL_replace_0 : decode cL_replace 0 = .ok (.aload_n 3, 1) := by decide +kernel
theorem dL_replace_1 : decode cL_replace 1 = .ok (.iconst 0, 1) := by decide +kernel
theorem dL_replace_2 : decode cL_replace 2 = .ok (.aload_n 0, 1) := by decide +kernel
theorem dL_replace_3 : decode cL_replace 3 = .ok (.iload_n 1, 1) := by decide +kernel
theorem dL_replace_4 : decode cL_replace 4 = .ok (.iload_n 2, 1) := by decide +kernel
theorem dL_replace_5 : decode cL_replace 5 = .ok (.invokevirtual 64, 3) := by decide +kernel
theorem dL_replace_8 : decode cL_replace 8 = .ok (.i2l, 1) := by decide +kernel
theorem dL_replace_9 : decode cL_replace 9 = .ok (.lastore, 1) := by decide +kernel
theorem dL_replace_10 : decode cL_replace 10 = .ok (.goto 7, 3) := by decide +kernel
theorem dL_replace_13 : decode cL_replace 13 = .ok (.astore 4, 2) := by decide +kernel
theorem dL_replace_15 : decode cL_replace 15 = .ok (.iconst 1, 1) := by decide +kernel
theorem dL_replace_16 : decode cL_replace 16 = .ok (.ireturn, 1) := by decide +kernel
theorem dL_replace_17 : decode cL_replace 17 = .ok (.iconst 0, 1) := by decide +kernel
theorem dL_replace_18 : decode cL_replace 18 = .ok (.ireturn, 1) := by decide +kernel
theorem dL_undo_0 : decode cL_undo 0 = .ok (.aload_n 1, 1) := by decide +kernel
theorem dL_undo_1 : decode cL_undo 1 = .ok (.iconst 0, 1) := by decide +kernel
theorem dL_undo_2 : decode cL_undo 2 = .ok (.aload_n 0, 1) := by decide +kernel
theorem dL_undo_3 : decode cL_undo 3 = .ok (.invokevirtual 67, 3) := by decide +kernel
theorem dL_undo_6 : decode cL_undo 6 = .ok (.i2l, 1) := by decide +kernel
theorem dL_undo_7 : decode cL_undo 7 = .ok (.lastore, 1) := by decide +kernel
theorem dL_undo_8 : decode cL_undo 8 = .ok (.goto 6, 3) := by decide +kernel
theorem dL_undo_11 : decode cL_undo 11 = .ok (.astore_n 2, 1) := by decide +kernel
theorem dL_undo_12 : decode cL_undo 12 = .ok (.iconst 1, 1) := by decide +kernel
theorem dL_undo_13 : decode cL_undo 13 = .ok (.ireturn, 1) := by decide +kernel
theorem dL_undo_14 : decode cL_undo 14 = .ok (.iconst 0, 1) := by decide +kernel
theorem dL_undo_15 : decode cL_undo 15 = .ok (.ireturn, 1) := by decide +kernel
theorem dL_drawing_0 : decode cL_drawing 0 = .ok (.aload_n 2, 1) := by decide +kernel
theorem dL_drawing_1 : decode cL_drawing 1 = .ok (.iconst 0, 1) := by decide +kernel
theorem dL_drawing_2 : decode cL_drawing 2 = .ok (.aload_n 0, 1) := by decide +kernel
theorem dL_drawing_3 : decode cL_drawing 3 = .ok (.iload_n 1, 1) := by decide +kernel
theorem dL_drawing_4 : decode cL_drawing 4 = .ok (.invokevirtual 70, 3) := by decide +kernel
theorem dL_drawing_7 : decode cL_drawing 7 = .ok (.i2l, 1) := by decide +kernel
theorem dL_drawing_8 : decode cL_drawing 8 = .ok (.lastore, 1) := by decide +kernel
theorem dL_drawing_9 : decode cL_drawing 9 = .ok (.goto 6, 3) := by decide +kernel
theorem dL_drawing_12 : decode cL_drawing 12 = .ok (.astore_n 3, 1) := by decide +kernel
theorem dL_drawing_13 : decode cL_drawing 13 = .ok (.iconst 1, 1) := by decide +kernel
theorem dL_drawing_14 : decode cL_drawing 14 = .ok (.ireturn, 1) := by decide +kernel
theorem dL_drawing_15 : decode cL_drawing 15 = .ok (.iconst 0, 1) := by decide +kernel
theorem dL_drawing_16 : decode cL_drawing 16 = .ok (.ireturn, 1) := by decide +kernel
theorem dL_drawn_0 : decode cL_drawn 0 = .ok (.aload_n 3, 1) := by decide +kernel
theorem dL_drawn_1 : decode cL_drawn 1 = .ok (.iconst 0, 1) := by decide +kernel
theorem dL_drawn_2 : decode cL_drawn 2 = .ok (.aload_n 0, 1) := by decide +kernel
theorem dL_drawn_3 : decode cL_drawn 3 = .ok (.iload_n 1, 1) := by decide +kernel
theorem dL_drawn_4 : decode cL_drawn 4 = .ok (.iload_n 2, 1) := by decide +kernel
theorem dL_drawn_5 : decode cL_drawn 5 = .ok (.invokevirtual 73, 3) := by decide +kernel
theorem dL_drawn_8 : decode cL_drawn 8 = .ok (.i2l, 1) := by decide +kernel
theorem dL_drawn_9 : decode cL_drawn 9 = .ok (.lastore, 1) := by decide +kernel
theorem dL_drawn_10 : decode cL_drawn 10 = .ok (.goto 7, 3) := by decide +kernel
theorem dL_drawn_13 : decode cL_drawn 13 = .ok (.astore 4, 2) := by decide +kernel
theorem dL_drawn_15 : decode cL_drawn 15 = .ok (.iconst 1, 1) := by decide +kernel
theorem dL_drawn_16 : decode cL_drawn 16 = .ok (.ireturn, 1) := by decide +kernel
theorem dL_drawn_17 : decode cL_drawn 17 = .ok (.iconst 0, 1) := by decide +kernel
theorem dL_drawn_18 : decode cL_drawn 18 = .ok (.ireturn, 1) := by decide +kernel
theorem dL_runScript_0 : decode cL_runScript 0 = .ok (.aload 4, 2) := by decide +kernel
theorem dL_runScript_2 : decode cL_runScript 2 = .ok (.iconst 0, 1) := by decide +kernel
theorem dL_runScript_3 : decode cL_runScript 3 = .ok (.aload_n 0, 1) := by decide +kernel
theorem dL_runScript_4 : decode cL_runScript 4 = .ok (.iload_n 1, 1) := by decide +kernel
theorem dL_runScript_5 : decode cL_runScript 5 = .ok (.lload_n 2, 1) := by decide +kernel
theorem dL_runScript_6 : decode cL_runScript 6 = .ok (.invokevirtual 76, 3) := by decide +kernel
theorem dL_runScript_9 : decode cL_runScript 9 = .ok (.i2l, 1) := by decide +kernel
theorem dL_runScript_10 : decode cL_runScript 10 = .ok (.lastore, 1) := by decide +kernel
theorem dL_runScript_11 : decode cL_runScript 11 = .ok (.goto 7, 3) := by decide +kernel
theorem dL_runScript_14 : decode cL_runScript 14 = .ok (.astore 5, 2) := by decide +kernel
theorem dL_runScript_16 : decode cL_runScript 16 = .ok (.iconst 1, 1) := by decide +kernel
theorem dL_runScript_17 : decode cL_runScript 17 = .ok (.ireturn, 1) := by decide +kernel
theorem dL_runScript_18 : decode cL_runScript 18 = .ok (.iconst 0, 1) := by decide +kernel
theorem dL_runScript_19 : decode cL_runScript 19 = .ok (.ireturn, 1) := by decide +kernel
theorem dL_simulate_0 : decode cL_simulate 0 = .ok (.aload 4, 2) := by decide +kernel
theorem dL_simulate_2 : decode cL_simulate 2 = .ok (.iconst 0, 1) := by decide +kernel
theorem dL_simulate_3 : decode cL_simulate 3 = .ok (.aload_n 0, 1) := by decide +kernel
theorem dL_simulate_4 : decode cL_simulate 4 = .ok (.lload_n 1, 1) := by decide +kernel
theorem dL_simulate_5 : decode cL_simulate 5 = .ok (.iload_n 3, 1) := by decide +kernel
theorem dL_simulate_6 : decode cL_simulate 6 = .ok (.invokevirtual 80, 3) := by decide +kernel
theorem dL_simulate_9 : decode cL_simulate 9 = .ok (.i2l, 1) := by decide +kernel
theorem dL_simulate_10 : decode cL_simulate 10 = .ok (.lastore, 1) := by decide +kernel
theorem dL_simulate_11 : decode cL_simulate 11 = .ok (.goto 7, 3) := by decide +kernel
theorem dL_simulate_14 : decode cL_simulate 14 = .ok (.astore 5, 2) := by decide +kernel
theorem dL_simulate_16 : decode cL_simulate 16 = .ok (.iconst 1, 1) := by decide +kernel
theorem dL_simulate_17 : decode cL_simulate 17 = .ok (.ireturn, 1) := by decide +kernel
theorem dL_simulate_18 : decode cL_simulate 18 = .ok (.iconst 0, 1) := by decide +kernel
theorem dL_simulate_19 : decode cL_simulate 19 = .ok (.ireturn, 1) := by decide +kernel
theorem dL_save_0 : decode cL_save 0 = .ok (.aload_n 2, 1) := by decide +kernel
theorem dL_save_1 : decode cL_save 1 = .ok (.iconst 0, 1) := by decide +kernel
theorem dL_save_2 : decode cL_save 2 = .ok (.aload_n 0, 1) := by decide +kernel
theorem dL_save_3 : decode cL_save 3 = .ok (.iload_n 1, 1) := by decide +kernel
theorem dL_save_4 : decode cL_save 4 = .ok (.invokevirtual 84, 3) := by decide +kernel
theorem dL_save_7 : decode cL_save 7 = .ok (.i2l, 1) := by decide +kernel
theorem dL_save_8 : decode cL_save 8 = .ok (.lastore, 1) := by decide +kernel
theorem dL_save_9 : decode cL_save 9 = .ok (.goto 6, 3) := by decide +kernel
theorem dL_save_12 : decode cL_save 12 = .ok (.astore_n 3, 1) := by decide +kernel
theorem dL_save_13 : decode cL_save 13 = .ok (.iconst 1, 1) := by decide +kernel
theorem dL_save_14 : decode cL_save 14 = .ok (.ireturn, 1) := by decide +kernel
theorem dL_save_15 : decode cL_save 15 = .ok (.iconst 0, 1) := by decide +kernel
theorem dL_save_16 : decode cL_save 16 = .ok (.ireturn, 1) := by decide +kernel
theorem dL_restore_0 : decode cL_restore 0 = .ok (.aload_n 2, 1) := by decide +kernel
theorem dL_restore_1 : decode cL_restore 1 = .ok (.iconst 0, 1) := by decide +kernel
theorem dL_restore_2 : decode cL_restore 2 = .ok (.aload_n 0, 1) := by decide +kernel
theorem dL_restore_3 : decode cL_restore 3 = .ok (.iload_n 1, 1) := by decide +kernel
theorem dL_restore_4 : decode cL_restore 4 = .ok (.invokevirtual 87, 3) := by decide +kernel
theorem dL_restore_7 : decode cL_restore 7 = .ok (.i2l, 1) := by decide +kernel
theorem dL_restore_8 : decode cL_restore 8 = .ok (.lastore, 1) := by decide +kernel
theorem dL_restore_9 : decode cL_restore 9 = .ok (.goto 9, 3) := by decide +kernel
theorem dL_restore_12 : decode cL_restore 12 = .ok (.astore_n 3, 1) := by decide +kernel
theorem dL_restore_13 : decode cL_restore 13 = .ok (.iconst 1, 1) := by decide +kernel
theorem dL_restore_14 : decode cL_restore 14 = .ok (.ireturn, 1) := by decide +kernel
theorem dL_restore_15 : decode cL_restore 15 = .ok (.astore_n 3, 1) := by decide +kernel
theorem dL_restore_16 : decode cL_restore 16 = .ok (.iconst 2, 1) := by decide +kernel
theorem dL_restore_17 : decode cL_restore 17 = .ok (.ireturn, 1) := by decide +kernel
theorem dL_restore_18 : decode cL_restore 18 = .ok (.iconst 0, 1) := by decide +kernel
theorem dL_restore_19 : decode cL_restore 19 = .ok (.ireturn, 1) := by decide +kernel
theorem dL_law_0 : decode cL_law 0 = .ok (.new 8, 3) := by decide +kernel
theorem dL_law_3 : decode cL_law 3 = .ok (.dup, 1) := by decide +kernel
theorem dL_law_4 : decode cL_law 4 = .ok (.invokespecial 90, 3) := by decide +kernel
theorem dL_law_7 : decode cL_law 7 = .ok (.astore_n 1, 1) := by decide +kernel
theorem dL_law_8 : decode cL_law 8 = .ok (.new 91, 3) := by decide +kernel
theorem dL_law_11 : decode cL_law 11 = .ok (.dup, 1) := by decide +kernel
theorem dL_law_12 : decode cL_law 12 = .ok (.invokespecial 93, 3) := by decide +kernel
theorem dL_law_15 : decode cL_law 15 = .ok (.astore_n 2, 1) := by decide +kernel
theorem dL_law_16 : decode cL_law 16 = .ok (.iconst 1, 1) := by decide +kernel
theorem dL_law_17 : decode cL_law 17 = .ok (.newarray .long, 2) := by decide +kernel
theorem dL_law_19 : decode cL_law 19 = .ok (.astore_n 3, 1) := by decide +kernel
theorem dL_law_20 : decode cL_law 20 = .ok (.iconst 0, 1) := by decide +kernel
theorem dL_law_21 : decode cL_law 21 = .ok (.istore 4, 2) := by decide +kernel
theorem dL_law_23 : decode cL_law 23 = .ok (.iload 4, 2) := by decide +kernel
theorem dL_law_25 : decode cL_law 25 = .ok (.aload_n 0, 1) := by decide +kernel
theorem dL_law_26 : decode cL_law 26 = .ok (.arraylength, 1) := by decide +kernel
theorem dL_law_27 : decode cL_law 27 = .ok (.iconst 4, 1) := by decide +kernel
theorem dL_law_28 : decode cL_law 28 = .ok (.isub, 1) := by decide +kernel
theorem dL_law_29 : decode cL_law 29 = .ok (.if_icmp .gt 1573, 3) := by decide +kernel
theorem dL_law_32 : decode cL_law 32 = .ok (.aload_n 0, 1) := by decide +kernel
theorem dL_law_33 : decode cL_law 33 = .ok (.iload 4, 2) := by decide +kernel
theorem dL_law_35 : decode cL_law 35 = .ok (.iaload, 1) := by decide +kernel
theorem dL_law_36 : decode cL_law 36 = .ok (.bipush 31, 2) := by decide +kernel
theorem dL_law_38 : decode cL_law 38 = .ok (.iand, 1) := by decide +kernel
theorem dL_law_39 : decode cL_law 39 = .ok (.tableswitch 1557 0 26 #[121, 177, 190, 203, 247, 303, 371, 427, 440, 496, 552, 608, 649, 721, 765, 809, 865, 921, 965, 1009, 1077, 1121, 1177, 1245, 1345, 1445, 1501], 121) := by decide +kernel
theorem dL_law_160 : decode cL_law 160 = .ok (.aload_n 1, 1) := by decide +kernel
theorem dL_law_161 : decode cL_law 161 = .ok (.aload_n 0, 1) := by decide +kernel
theorem dL_law_162 : decode cL_law 162 = .ok (.iload 4, 2) := by decide +kernel
theorem dL_law_164 : decode cL_law 164 = .ok (.iconst 1, 1) := by decide +kernel
theorem dL_law_165 : decode cL_law 165 = .ok (.iadd, 1) := by decide +kernel
theorem dL_law_166 : decode cL_law 166 = .ok (.iaload, 1) := by decide +kernel
theorem dL_law_167 : decode cL_law 167 = .ok (.aload_n 3, 1) := by decide +kernel
theorem dL_law_168 : decode cL_law 168 = .ok (.invokestatic 94, 3) := by decide +kernel
theorem dL_law_171 : decode cL_law 171 = .ok (.istore 5, 2) := by decide +kernel
theorem dL_law_173 : decode cL_law 173 = .ok (.aload_n 2, 1) := by decide +kernel
theorem dL_law_174 : decode cL_law 174 = .ok (.aload_n 0, 1) := by decide +kernel
theorem dL_law_175 : decode cL_law 175 = .ok (.iload 4, 2) := by decide +kernel
theorem dL_law_177 : decode cL_law 177 = .ok (.iconst 1, 1) := by decide +kernel
theorem dL_law_178 : decode cL_law 178 = .ok (.iadd, 1) := by decide +kernel
theorem dL_law_179 : decode cL_law 179 = .ok (.iaload, 1) := by decide +kernel
theorem dL_law_180 : decode cL_law 180 = .ok (.invokevirtual 99, 3) := by decide +kernel
theorem dL_law_183 : decode cL_law 183 = .ok (.istore 6, 2) := by decide +kernel
theorem dL_law_185 : decode cL_law 185 = .ok (.aload_n 2, 1) := by decide +kernel
theorem dL_law_186 : decode cL_law 186 = .ok (.invokevirtual 100, 3) := by decide +kernel
theorem dL_law_189 : decode cL_law 189 = .ok (.iload 5, 2) := by decide +kernel
theorem dL_law_191 : decode cL_law 191 = .ok (.if_icmp .eq 5, 3) := by decide +kernel
theorem dL_law_194 : decode cL_law 194 = .ok (.iconst 0, 1) := by decide +kernel
theorem dL_law_195 : decode cL_law 195 = .ok (.ireturn, 1) := by decide +kernel
theorem dL_law_196 : decode cL_law 196 = .ok (.iload 5, 2) := by decide +kernel
theorem dL_law_198 : decode cL_law 198 = .ok (.ifCond .ne 15, 3) := by decide +kernel
theorem dL_law_201 : decode cL_law 201 = .ok (.aload_n 3, 1) := by decide +kernel
theorem dL_law_202 : decode cL_law 202 = .ok (.iconst 0, 1) := by decide +kernel
theorem dL_law_203 : decode cL_law 203 = .ok (.laload, 1) := by decide +kernel
theorem dL_law_204 : decode cL_law 204 = .ok (.iload 6, 2) := by decide +kernel
theorem dL_law_206 : decode cL_law 206 = .ok (.i2l, 1) := by decide +kernel
theorem dL_law_207 : decode cL_law 207 = .ok (.lcmp, 1) := by decide +kernel
theorem dL_law_208 : decode cL_law 208 = .ok (.ifCond .eq 5, 3) := by decide +kernel
theorem dL_law_211 : decode cL_law 211 = .ok (.iconst 0, 1) := by decide +kernel
theorem dL_law_212 : decode cL_law 212 = .ok (.ireturn, 1) := by decide +kernel
theorem dL_law_213 : decode cL_law 213 = .ok (.goto 1383, 3) := by decide +kernel
theorem dL_law_216 : decode cL_law 216 = .ok (.aload_n 1, 1) := by decide +kernel
theorem dL_law_217 : decode cL_law 217 = .ok (.invokevirtual 103, 3) := by decide +kernel
theorem dL_law_220 : decode cL_law 220 = .ok (.aload_n 2, 1) := by decide +kernel
theorem dL_law_221 : decode cL_law 221 = .ok (.invokevirtual 106, 3) := by decide +kernel
theorem dL_law_224 : decode cL_law 224 = .ok (.if_icmp .eq 1372, 3) := by decide +kernel
theorem dL_law_227 : decode cL_law 227 = .ok (.iconst 0, 1) := by decide +kernel
theorem dL_law_228 : decode cL_law 228 = .ok (.ireturn, 1) := by decide +kernel
theorem dL_law_229 : decode cL_law 229 = .ok (.aload_n 1, 1) := by decide +kernel
theorem dL_law_230 : decode cL_law 230 = .ok (.invokevirtual 107, 3) := by decide +kernel
theorem dL_law_233 : decode cL_law 233 = .ok (.aload_n 2, 1) := by decide +kernel
theorem dL_law_234 : decode cL_law 234 = .ok (.invokevirtual 110, 3) := by decide +kernel
theorem dL_law_237 : decode cL_law 237 = .ok (.if_icmp .eq 1359, 3) := by decide +kernel
theorem dL_law_240 : decode cL_law 240 = .ok (.iconst 0, 1) := by decide +kernel
theorem dL_law_241 : decode cL_law 241 = .ok (.ireturn, 1) := by decide +kernel
theorem dL_law_242 : decode cL_law 242 = .ok (.aload_n 1, 1) := by decide +kernel
theorem dL_law_243 : decode cL_law 243 = .ok (.aload_n 3, 1) := by decide +kernel
theorem dL_law_244 : decode cL_law 244 = .ok (.invokestatic 111, 3) := by decide +kernel
theorem dL_law_247 : decode cL_law 247 = .ok (.istore 5, 2) := by decide +kernel
theorem dL_law_249 : decode cL_law 249 = .ok (.aload_n 2, 1) := by decide +kernel
theorem dL_law_250 : decode cL_law 250 = .ok (.invokevirtual 114, 3) := by decide +kernel
theorem dL_law_253 : decode cL_law 253 = .ok (.istore 6, 2) := by decide +kernel
theorem dL_law_255 : decode cL_law 255 = .ok (.aload_n 2, 1) := by decide +kernel
theorem dL_law_256 : decode cL_law 256 = .ok (.invokevirtual 100, 3) := by decide +kernel
theorem dL_law_259 : decode cL_law 259 = .ok (.iload 5, 2) := by decide +kernel
theorem dL_law_261 : decode cL_law 261 = .ok (.if_icmp .eq 5, 3) := by decide +kernel
theorem dL_law_264 : decode cL_law 264 = .ok (.iconst 0, 1) := by decide +kernel
theorem dL_law_265 : decode cL_law 265 = .ok (.ireturn, 1) := by decide +kernel
theorem dL_law_266 : decode cL_law 266 = .ok (.iload 5, 2) := by decide +kernel
theorem dL_law_268 : decode cL_law 268 = .ok (.ifCond .ne 15, 3) := by decide +kernel
theorem dL_law_271 : decode cL_law 271 = .ok (.aload_n 3, 1) := by decide +kernel
theorem dL_law_272 : decode cL_law 272 = .ok (.iconst 0, 1) := by decide +kernel
theorem dL_law_273 : decode cL_law 273 = .ok (.laload, 1) := by decide +kernel
theorem dL_law_274 : decode cL_law 274 = .ok (.iload 6, 2) := by decide +kernel
theorem dL_law_276 : decode cL_law 276 = .ok (.i2l, 1) := by decide +kernel
theorem dL_law_277 : decode cL_law 277 = .ok (.lcmp, 1) := by decide +kernel
theorem dL_law_278 : decode cL_law 278 = .ok (.ifCond .eq 5, 3) := by decide +kernel
theorem dL_law_281 : decode cL_law 281 = .ok (.iconst 0, 1) := by decide +kernel
theorem dL_law_282 : decode cL_law 282 = .ok (.ireturn, 1) := by decide +kernel
theorem dL_law_283 : decode cL_law 283 = .ok (.goto 1313, 3) := by decide +kernel
theorem dL_law_286 : decode cL_law 286 = .ok (.aload_n 1, 1) := by decide +kernel
theorem dL_law_287 : decode cL_law 287 = .ok (.aload_n 0, 1) := by decide +kernel
theorem dL_law_288 : decode cL_law 288 = .ok (.iload 4, 2) := by decide +kernel
theorem dL_law_290 : decode cL_law 290 = .ok (.iconst 1, 1) := by decide +kernel
theorem dL_law_291 : decode cL_law 291 = .ok (.iadd, 1) := by decide +kernel
theorem dL_law_292 : decode cL_law 292 = .ok (.iaload, 1) := by decide +kernel
theorem dL_law_293 : decode cL_law 293 = .ok (.aload_n 3, 1) := by decide +kernel
theorem dL_law_294 : decode cL_law 294 = .ok (.invokestatic 115, 3) := by decide +kernel
theorem dL_law_297 : decode cL_law 297 = .ok (.istore 5, 2) := by decide +kernel
theorem dL_law_299 : decode cL_law 299 = .ok (.aload_n 2, 1) := by decide +kernel
theorem dL_law_300 : decode cL_law 300 = .ok (.aload_n 0, 1) := by decide +kernel
theorem dL_law_301 : decode cL_law 301 = .ok (.iload 4, 2) := by decide +kernel
theorem dL_law_303 : decode cL_law 303 = .ok (.iconst 1, 1) := by decide +kernel
theorem dL_law_304 : decode cL_law 304 = .ok (.iadd, 1) := by decide +kernel
theorem dL_law_305 : decode cL_law 305 = .ok (.iaload, 1) := by decide +kernel
theorem dL_law_306 : decode cL_law 306 = .ok (.invokevirtual 117, 3) := by decide +kernel
theorem dL_law_309 : decode cL_law 309 = .ok (.istore 6, 2) := by decide +kernel
theorem dL_law_311 : decode cL_law 311 = .ok (.aload_n 2, 1) := by decide +kernel
theorem dL_law_312 : decode cL_law 312 = .ok (.invokevirtual 100, 3) := by decide +kernel
theorem dL_law_315 : decode cL_law 315 = .ok (.iload 5, 2) := by decide +kernel
theorem dL_law_317 : decode cL_law 317 = .ok (.if_icmp .eq 5, 3) := by decide +kernel
theorem dL_law_320 : decode cL_law 320 = .ok (.iconst 0, 1) := by decide +kernel
theorem dL_law_321 : decode cL_law 321 = .ok (.ireturn, 1) := by decide +kernel
theorem dL_law_322 : decode cL_law 322 = .ok (.iload 5, 2) := by decide +kernel
theorem dL_law_324 : decode cL_law 324 = .ok (.ifCond .ne 15, 3) := by decide +kernel
theorem dL_law_327 : decode cL_law 327 = .ok (.aload_n 3, 1) := by decide +kernel
theorem dL_law_328 : decode cL_law 328 = .ok (.iconst 0, 1) := by decide +kernel
theorem dL_law_329 : decode cL_law 329 = .ok (.laload, 1) := by decide +kernel
theorem dL_law_330 : decode cL_law 330 = .ok (.iload 6, 2) := by decide +kernel
theorem dL_law_332 : decode cL_law 332 = .ok (.i2l, 1) := by decide +kernel
theorem dL_law_333 : decode cL_law 333 = .ok (.lcmp, 1) := by decide +kernel
theorem dL_law_334 : decode cL_law 334 = .ok (.ifCond .eq 5, 3) := by decide +kernel
theorem dL_law_337 : decode cL_law 337 = .ok (.iconst 0, 1) := by decide +kernel
theorem dL_law_338 : decode cL_law 338 = .ok (.ireturn, 1) := by decide +kernel
theorem dL_law_339 : decode cL_law 339 = .ok (.goto 1257, 3) := by decide +kernel
theorem dL_law_342 : decode cL_law 342 = .ok (.aload_n 1, 1) := by decide +kernel
theorem dL_law_343 : decode cL_law 343 = .ok (.aload_n 0, 1) := by decide +kernel
theorem dL_law_344 : decode cL_law 344 = .ok (.iload 4, 2) := by decide +kernel
theorem dL_law_346 : decode cL_law 346 = .ok (.iconst 1, 1) := by decide +kernel
theorem dL_law_347 : decode cL_law 347 = .ok (.iadd, 1) := by decide +kernel
theorem dL_law_348 : decode cL_law 348 = .ok (.iaload, 1) := by decide +kernel
theorem dL_law_349 : decode cL_law 349 = .ok (.aload_n 0, 1) := by decide +kernel
theorem dL_law_350 : decode cL_law 350 = .ok (.iload 4, 2) := by decide +kernel
theorem dL_law_352 : decode cL_law 352 = .ok (.iconst 2, 1) := by decide +kernel
theorem dL_law_353 : decode cL_law 353 = .ok (.iadd, 1) := by decide +kernel
theorem dL_law_354 : decode cL_law 354 = .ok (.iaload, 1) := by decide +kernel
theorem dL_law_355 : decode cL_law 355 = .ok (.aload_n 3, 1) := by decide +kernel
theorem dL_law_356 : decode cL_law 356 = .ok (.invokestatic 118, 3) := by decide +kernel
theorem dL_law_359 : decode cL_law 359 = .ok (.istore 5, 2) := by decide +kernel
theorem dL_law_361 : decode cL_law 361 = .ok (.aload_n 2, 1) := by decide +kernel
theorem dL_law_362 : decode cL_law 362 = .ok (.aload_n 0, 1) := by decide +kernel
theorem dL_law_363 : decode cL_law 363 = .ok (.iload 4, 2) := by decide +kernel
theorem dL_law_365 : decode cL_law 365 = .ok (.iconst 1, 1) := by decide +kernel
theorem dL_law_366 : decode cL_law 366 = .ok (.iadd, 1) := by decide +kernel
theorem dL_law_367 : decode cL_law 367 = .ok (.iaload, 1) := by decide +kernel
theorem dL_law_368 : decode cL_law 368 = .ok (.aload_n 0, 1) := by decide +kernel
theorem dL_law_369 : decode cL_law 369 = .ok (.iload 4, 2) := by decide +kernel
theorem dL_law_371 : decode cL_law 371 = .ok (.iconst 2, 1) := by decide +kernel
theorem dL_law_372 : decode cL_law 372 = .ok (.iadd, 1) := by decide +kernel
theorem dL_law_373 : decode cL_law 373 = .ok (.iaload, 1) := by decide +kernel
theorem dL_law_374 : decode cL_law 374 = .ok (.invokevirtual 121, 3) := by decide +kernel
theorem dL_law_377 : decode cL_law 377 = .ok (.istore 6, 2) := by decide +kernel
theorem dL_law_379 : decode cL_law 379 = .ok (.aload_n 2, 1) := by decide +kernel
theorem dL_law_380 : decode cL_law 380 = .ok (.invokevirtual 100, 3) := by decide +kernel
theorem dL_law_383 : decode cL_law 383 = .ok (.iload 5, 2) := by decide +kernel
theorem dL_law_385 : decode cL_law 385 = .ok (.if_icmp .eq 5, 3) := by decide +kernel
theorem dL_law_388 : decode cL_law 388 = .ok (.iconst 0, 1) := by decide +kernel
theorem dL_law_389 : decode cL_law 389 = .ok (.ireturn, 1) := by decide +kernel
theorem dL_law_390 : decode cL_law 390 = .ok (.iload 5, 2) := by decide +kernel
theorem dL_law_392 : decode cL_law 392 = .ok (.ifCond .ne 15, 3) := by decide +kernel
theorem dL_law_395 : decode cL_law 395 = .ok (.aload_n 3, 1) := by decide +kernel
theorem dL_law_396 : decode cL_law 396 = .ok (.iconst 0, 1) := by decide +kernel
theorem dL_law_397 : decode cL_law 397 = .ok (.laload, 1) := by decide +kernel
theorem dL_law_398 : decode cL_law 398 = .ok (.iload 6, 2) := by decide +kernel
theorem dL_law_400 : decode cL_law 400 = .ok (.i2l, 1) := by decide +kernel
theorem dL_law_401 : decode cL_law 401 = .ok (.lcmp, 1) := by decide +kernel
theorem dL_law_402 : decode cL_law 402 = .ok (.ifCond .eq 5, 3) := by decide +kernel
theorem dL_law_405 : decode cL_law 405 = .ok (.iconst 0, 1) := by decide +kernel
theorem dL_law_406 : decode cL_law 406 = .ok (.ireturn, 1) := by decide +kernel
theorem dL_law_407 : decode cL_law 407 = .ok (.goto 1189, 3) := by decide +kernel
theorem dL_law_410 : decode cL_law 410 = .ok (.aload_n 1, 1) := by decide +kernel
theorem dL_law_411 : decode cL_law 411 = .ok (.aload_n 0, 1) := by decide +kernel
theorem dL_law_412 : decode cL_law 412 = .ok (.iload 4, 2) := by decide +kernel
theorem dL_law_414 : decode cL_law 414 = .ok (.iconst 1, 1) := by decide +kernel
theorem dL_law_415 : decode cL_law 415 = .ok (.iadd, 1) := by decide +kernel
theorem dL_law_416 : decode cL_law 416 = .ok (.iaload, 1) := by decide +kernel
theorem dL_law_417 : decode cL_law 417 = .ok (.aload_n 3, 1) := by decide +kernel
theorem dL_law_418 : decode cL_law 418 = .ok (.invokestatic 122, 3) := by decide +kernel
theorem dL_law_421 : decode cL_law 421 = .ok (.istore 5, 2) := by decide +kernel
theorem dL_law_423 : decode cL_law 423 = .ok (.aload_n 2, 1) := by decide +kernel
theorem dL_law_424 : decode cL_law 424 = .ok (.aload_n 0, 1) := by decide +kernel
theorem dL_law_425 : decode cL_law 425 = .ok (.iload 4, 2) := by decide +kernel
theorem dL_law_427 : decode cL_law 427 = .ok (.iconst 1, 1) := by decide +kernel
theorem dL_law_428 : decode cL_law 428 = .ok (.iadd, 1) := by decide +kernel
theorem dL_law_429 : decode cL_law 429 = .ok (.iaload, 1) := by decide +kernel
theorem dL_law_430 : decode cL_law 430 = .ok (.invokevirtual 124, 3) := by decide +kernel
theorem dL_law_433 : decode cL_law 433 = .ok (.istore 6, 2) := by decide +kernel
theorem dL_law_435 : decode cL_law 435 = .ok (.aload_n 2, 1) := by decide +kernel
theorem dL_law_436 : decode cL_law 436 = .ok (.invokevirtual 100, 3) := by decide +kernel
theorem dL_law_439 : decode cL_law 439 = .ok (.iload 5, 2) := by decide +kernel
theorem dL_law_441 : decode cL_law 441 = .ok (.if_icmp .eq 5, 3) := by decide +kernel
theorem dL_law_444 : decode cL_law 444 = .ok (.iconst 0, 1) := by decide +kernel
theorem dL_law_445 : decode cL_law 445 = .ok (.ireturn, 1) := by decide +kernel
theorem dL_law_446 : decode cL_law 446 = .ok (.iload 5, 2) := by decide +kernel
theorem dL_law_448 : decode cL_law 448 = .ok (.ifCond .ne 15, 3) := by decide +kernel
theorem dL_law_451 : decode cL_law 451 = .ok (.aload_n 3, 1) := by decide +kernel
theorem dL_law_452 : decode cL_law 452 = .ok (.iconst 0, 1) := by decide +kernel
theorem dL_law_453 : decode cL_law 453 = .ok (.laload, 1) := by decide +kernel
theorem dL_law_454 : decode cL_law 454 = .ok (.iload 6, 2) := by decide +kernel
theorem dL_law_456 : decode cL_law 456 = .ok (.i2l, 1) := by decide +kernel
theorem dL_law_457 : decode cL_law 457 = .ok (.lcmp, 1) := by decide +kernel
theorem dL_law_458 : decode cL_law 458 = .ok (.ifCond .eq 5, 3) := by decide +kernel
theorem dL_law_461 : decode cL_law 461 = .ok (.iconst 0, 1) := by decide +kernel
theorem dL_law_462 : decode cL_law 462 = .ok (.ireturn, 1) := by decide +kernel
theorem dL_law_463 : decode cL_law 463 = .ok (.goto 1133, 3) := by decide +kernel
theorem dL_law_466 : decode cL_law 466 = .ok (.aload_n 1, 1) := by decide +kernel
theorem dL_law_467 : decode cL_law 467 = .ok (.invokevirtual 125, 3) := by decide +kernel
theorem dL_law_470 : decode cL_law 470 = .ok (.aload_n 2, 1) := by decide +kernel
theorem dL_law_471 : decode cL_law 471 = .ok (.invokevirtual 128, 3) := by decide +kernel
theorem dL_law_474 : decode cL_law 474 = .ok (.if_icmp .eq 1122, 3) := by decide +kernel
theorem dL_law_477 : decode cL_law 477 = .ok (.iconst 0, 1) := by decide +kernel
theorem dL_law_478 : decode cL_law 478 = .ok (.ireturn, 1) := by decide +kernel
theorem dL_law_479 : decode cL_law 479 = .ok (.aload_n 1, 1) := by decide +kernel
theorem dL_law_480 : decode cL_law 480 = .ok (.aload_n 0, 1) := by decide +kernel
theorem dL_law_481 : decode cL_law 481 = .ok (.iload 4, 2) := by decide +kernel
theorem dL_law_483 : decode cL_law 483 = .ok (.iconst 1, 1) := by decide +kernel
theorem dL_law_484 : decode cL_law 484 = .ok (.iadd, 1) := by decide +kernel
theorem dL_law_485 : decode cL_law 485 = .ok (.iaload, 1) := by decide +kernel
theorem dL_law_486 : decode cL_law 486 = .ok (.aload_n 3, 1) := by decide +kernel
theorem dL_law_487 : decode cL_law 487 = .ok (.invokestatic 129, 3) := by decide +kernel
theorem dL_law_490 : decode cL_law 490 = .ok (.istore 5, 2) := by decide +kernel
theorem dL_law_492 : decode cL_law 492 = .ok (.aload_n 2, 1) := by decide +kernel
theorem dL_law_493 : decode cL_law 493 = .ok (.aload_n 0, 1) := by decide +kernel
theorem dL_law_494 : decode cL_law 494 = .ok (.iload 4, 2) := by decide +kernel
theorem dL_law_496 : decode cL_law 496 = .ok (.iconst 1, 1) := by decide +kernel
theorem dL_law_497 : decode cL_law 497 = .ok (.iadd, 1) := by decide +kernel
theorem dL_law_498 : decode cL_law 498 = .ok (.iaload, 1) := by decide +kernel
theorem dL_law_499 : decode cL_law 499 = .ok (.invokevirtual 131, 3) := by decide +kernel
theorem dL_law_502 : decode cL_law 502 = .ok (.istore 6, 2) := by decide +kernel
theorem dL_law_504 : decode cL_law 504 = .ok (.aload_n 2, 1) := by decide +kernel
theorem dL_law_505 : decode cL_law 505 = .ok (.invokevirtual 100, 3) := by decide +kernel
theorem dL_law_508 : decode cL_law 508 = .ok (.iload 5, 2) := by decide +kernel
theorem dL_law_510 : decode cL_law 510 = .ok (.if_icmp .eq 5, 3) := by decide +kernel
theorem dL_law_513 : decode cL_law 513 = .ok (.iconst 0, 1) := by decide +kernel
theorem dL_law_514 : decode cL_law 514 = .ok (.ireturn, 1) := by decide +kernel
theorem dL_law_515 : decode cL_law 515 = .ok (.iload 5, 2) := by decide +kernel
theorem dL_law_517 : decode cL_law 517 = .ok (.ifCond .ne 15, 3) := by decide +kernel
theorem dL_law_520 : decode cL_law 520 = .ok (.aload_n 3, 1) := by decide +kernel
theorem dL_law_521 : decode cL_law 521 = .ok (.iconst 0, 1) := by decide +kernel
theorem dL_law_522 : decode cL_law 522 = .ok (.laload, 1) := by decide +kernel
theorem dL_law_523 : decode cL_law 523 = .ok (.iload 6, 2) := by decide +kernel
theorem dL_law_525 : decode cL_law 525 = .ok (.i2l, 1) := by decide +kernel
theorem dL_law_526 : decode cL_law 526 = .ok (.lcmp, 1) := by decide +kernel
theorem dL_law_527 : decode cL_law 527 = .ok (.ifCond .eq 5, 3) := by decide +kernel
theorem dL_law_530 : decode cL_law 530 = .ok (.iconst 0, 1) := by decide +kernel
theorem dL_law_531 : decode cL_law 531 = .ok (.ireturn, 1) := by decide +kernel
theorem dL_law_532 : decode cL_law 532 = .ok (.goto 1064, 3) := by decide +kernel
theorem dL_law_535 : decode cL_law 535 = .ok (.aload_n 1, 1) := by decide +kernel
theorem dL_law_536 : decode cL_law 536 = .ok (.aload_n 0, 1) := by decide +kernel
theorem dL_law_537 : decode cL_law 537 = .ok (.iload 4, 2) := by decide +kernel
theorem dL_law_539 : decode cL_law 539 = .ok (.iconst 1, 1) := by decide +kernel
theorem dL_law_540 : decode cL_law 540 = .ok (.iadd, 1) := by decide +kernel
theorem dL_law_541 : decode cL_law 541 = .ok (.iaload, 1) := by decide +kernel
theorem dL_law_542 : decode cL_law 542 = .ok (.aload_n 3, 1) := by decide +kernel
theorem dL_law_543 : decode cL_law 543 = .ok (.invokestatic 132, 3) := by decide +kernel
theorem dL_law_546 : decode cL_law 546 = .ok (.istore 5, 2) := by decide +kernel
theorem dL_law_548 : decode cL_law 548 = .ok (.aload_n 2, 1) := by decide +kernel
theorem dL_law_549 : decode cL_law 549 = .ok (.aload_n 0, 1) := by decide +kernel
theorem dL_law_550 : decode cL_law 550 = .ok (.iload 4, 2) := by decide +kernel
theorem dL_law_552 : decode cL_law 552 = .ok (.iconst 1, 1) := by decide +kernel
theorem dL_law_553 : decode cL_law 553 = .ok (.iadd, 1) := by decide +kernel
theorem dL_law_554 : decode cL_law 554 = .ok (.iaload, 1) := by decide +kernel
theorem dL_law_555 : decode cL_law 555 = .ok (.invokevirtual 134, 3) := by decide +kernel
theorem dL_law_558 : decode cL_law 558 = .ok (.istore 6, 2) := by decide +kernel
theorem dL_law_560 : decode cL_law 560 = .ok (.aload_n 2, 1) := by decide +kernel
theorem dL_law_561 : decode cL_law 561 = .ok (.invokevirtual 100, 3) := by decide +kernel
theorem dL_law_564 : decode cL_law 564 = .ok (.iload 5, 2) := by decide +kernel
theorem dL_law_566 : decode cL_law 566 = .ok (.if_icmp .eq 5, 3) := by decide +kernel
theorem dL_law_569 : decode cL_law 569 = .ok (.iconst 0, 1) := by decide +kernel
theorem dL_law_570 : decode cL_law 570 = .ok (.ireturn, 1) := by decide +kernel
theorem dL_law_571 : decode cL_law 571 = .ok (.iload 5, 2) := by decide +kernel
theorem dL_law_573 : decode cL_law 573 = .ok (.ifCond .ne 15, 3) := by decide +kernel
theorem dL_law_576 : decode cL_law 576 = .ok (.aload_n 3, 1) := by decide +kernel
theorem dL_law_577 : decode cL_law 577 = .ok (.iconst 0, 1) := by decide +kernel
theorem dL_law_578 : decode cL_law 578 = .ok (.laload, 1) := by decide +kernel
theorem dL_law_579 : decode cL_law 579 = .ok (.iload 6, 2) := by decide +kernel
theorem dL_law_581 : decode cL_law 581 = .ok (.i2l, 1) := by decide +kernel
theorem dL_law_582 : decode cL_law 582 = .ok (.lcmp, 1) := by decide +kernel
theorem dL_law_583 : decode cL_law 583 = .ok (.ifCond .eq 5, 3) := by decide +kernel
theorem dL_law_586 : decode cL_law 586 = .ok (.iconst 0, 1) := by decide +kernel
theorem dL_law_587 : decode cL_law 587 = .ok (.ireturn, 1) := by decide +kernel
theorem dL_law_588 : decode cL_law 588 = .ok (.goto 1008, 3) := by decide +kernel
theorem dL_law_591 : decode cL_law 591 = .ok (.aload_n 1, 1) := by decide +kernel
theorem dL_law_592 : decode cL_law 592 = .ok (.aload_n 0, 1) := by decide +kernel
theorem dL_law_593 : decode cL_law 593 = .ok (.iload 4, 2) := by decide +kernel
theorem dL_law_595 : decode cL_law 595 = .ok (.iconst 1, 1) := by decide +kernel
theorem dL_law_596 : decode cL_law 596 = .ok (.iadd, 1) := by decide +kernel
theorem dL_law_597 : decode cL_law 597 = .ok (.iaload, 1) := by decide +kernel
theorem dL_law_598 : decode cL_law 598 = .ok (.aload_n 3, 1) := by decide +kernel
theorem dL_law_599 : decode cL_law 599 = .ok (.invokestatic 135, 3) := by decide +kernel
theorem dL_law_602 : decode cL_law 602 = .ok (.istore 5, 2) := by decide +kernel
theorem dL_law_604 : decode cL_law 604 = .ok (.aload_n 2, 1) := by decide +kernel
theorem dL_law_605 : decode cL_law 605 = .ok (.aload_n 0, 1) := by decide +kernel
theorem dL_law_606 : decode cL_law 606 = .ok (.iload 4, 2) := by decide +kernel
theorem dL_law_608 : decode cL_law 608 = .ok (.iconst 1, 1) := by decide +kernel
theorem dL_law_609 : decode cL_law 609 = .ok (.iadd, 1) := by decide +kernel
theorem dL_law_610 : decode cL_law 610 = .ok (.iaload, 1) := by decide +kernel
theorem dL_law_611 : decode cL_law 611 = .ok (.invokevirtual 137, 3) := by decide +kernel
theorem dL_law_614 : decode cL_law 614 = .ok (.istore 6, 2) := by decide +kernel
theorem dL_law_616 : decode cL_law 616 = .ok (.aload_n 2, 1) := by decide +kernel
theorem dL_law_617 : decode cL_law 617 = .ok (.invokevirtual 100, 3) := by decide +kernel
theorem dL_law_620 : decode cL_law 620 = .ok (.iload 5, 2) := by decide +kernel
theorem dL_law_622 : decode cL_law 622 = .ok (.if_icmp .eq 5, 3) := by decide +kernel
theorem dL_law_625 : decode cL_law 625 = .ok (.iconst 0, 1) := by decide +kernel
theorem dL_law_626 : decode cL_law 626 = .ok (.ireturn, 1) := by decide +kernel
theorem dL_law_627 : decode cL_law 627 = .ok (.iload 5, 2) := by decide +kernel
theorem dL_law_629 : decode cL_law 629 = .ok (.ifCond .ne 15, 3) := by decide +kernel
theorem dL_law_632 : decode cL_law 632 = .ok (.aload_n 3, 1) := by decide +kernel
theorem dL_law_633 : decode cL_law 633 = .ok (.iconst 0, 1) := by decide +kernel
theorem dL_law_634 : decode cL_law 634 = .ok (.laload, 1) := by decide +kernel
theorem dL_law_635 : decode cL_law 635 = .ok (.iload 6, 2) := by decide +kernel
theorem dL_law_637 : decode cL_law 637 = .ok (.i2l, 1) := by decide +kernel
theorem dL_law_638 : decode cL_law 638 = .ok (.lcmp, 1) := by decide +kernel
theorem dL_law_639 : decode cL_law 639 = .ok (.ifCond .eq 5, 3) := by decide +kernel
theorem dL_law_642 : decode cL_law 642 = .ok (.iconst 0, 1) := by decide +kernel
theorem dL_law_643 : decode cL_law 643 = .ok (.ireturn, 1) := by decide +kernel
theorem dL_law_644 : decode cL_law 644 = .ok (.goto 952, 3) := by decide +kernel
theorem dL_law_647 : decode cL_law 647 = .ok (.aload_n 1, 1) := by decide +kernel
theorem dL_law_648 : decode cL_law 648 = .ok (.aload_n 0, 1) := by decide +kernel
theorem dL_law_649 : decode cL_law 649 = .ok (.iload 4, 2) := by decide +kernel
theorem dL_law_651 : decode cL_law 651 = .ok (.iconst 1, 1) := by decide +kernel
theorem dL_law_652 : decode cL_law 652 = .ok (.iadd, 1) := by decide +kernel
theorem dL_law_653 : decode cL_law 653 = .ok (.iaload, 1) := by decide +kernel
theorem dL_law_654 : decode cL_law 654 = .ok (.ifCond .eq 7, 3) := by decide +kernel
theorem dL_law_657 : decode cL_law 657 = .ok (.iconst 1, 1) := by decide +kernel
theorem dL_law_658 : decode cL_law 658 = .ok (.goto 4, 3) := by decide +kernel
theorem dL_law_661 : decode cL_law 661 = .ok (.iconst 0, 1) := by decide +kernel
theorem dL_law_662 : decode cL_law 662 = .ok (.invokevirtual 138, 3) := by decide +kernel
theorem dL_law_665 : decode cL_law 665 = .ok (.aload_n 2, 1) := by decide +kernel
theorem dL_law_666 : decode cL_law 666 = .ok (.aload_n 0, 1) := by decide +kernel
theorem dL_law_667 : decode cL_law 667 = .ok (.iload 4, 2) := by decide +kernel
theorem dL_law_669 : decode cL_law 669 = .ok (.iconst 1, 1) := by decide +kernel
theorem dL_law_670 : decode cL_law 670 = .ok (.iadd, 1) := by decide +kernel
theorem dL_law_671 : decode cL_law 671 = .ok (.iaload, 1) := by decide +kernel
theorem dL_law_672 : decode cL_law 672 = .ok (.ifCond .eq 7, 3) := by decide +kernel
theorem dL_law_675 : decode cL_law 675 = .ok (.iconst 1, 1) := by decide +kernel
theorem dL_law_676 : decode cL_law 676 = .ok (.goto 4, 3) := by decide +kernel
theorem dL_law_679 : decode cL_law 679 = .ok (.iconst 0, 1) := by decide +kernel
theorem dL_law_680 : decode cL_law 680 = .ok (.invokevirtual 141, 3) := by decide +kernel
theorem dL_law_683 : decode cL_law 683 = .ok (.if_icmp .eq 913, 3) := by decide +kernel
theorem dL_law_686 : decode cL_law 686 = .ok (.iconst 0, 1) := by decide +kernel
theorem dL_law_687 : decode cL_law 687 = .ok (.ireturn, 1) := by decide +kernel
theorem dL_law_688 : decode cL_law 688 = .ok (.aload_n 1, 1) := by decide +kernel
theorem dL_law_689 : decode cL_law 689 = .ok (.aload_n 0, 1) := by decide +kernel
theorem dL_law_690 : decode cL_law 690 = .ok (.iload 4, 2) := by decide +kernel
theorem dL_law_692 : decode cL_law 692 = .ok (.iconst 1, 1) := by decide +kernel
theorem dL_law_693 : decode cL_law 693 = .ok (.iadd, 1) := by decide +kernel
theorem dL_law_694 : decode cL_law 694 = .ok (.iaload, 1) := by decide +kernel
theorem dL_law_695 : decode cL_law 695 = .ok (.ifCond .eq 7, 3) := by decide +kernel
theorem dL_law_698 : decode cL_law 698 = .ok (.iconst 1, 1) := by decide +kernel
theorem dL_law_699 : decode cL_law 699 = .ok (.goto 4, 3) := by decide +kernel
theorem dL_law_702 : decode cL_law 702 = .ok (.iconst 0, 1) := by decide +kernel
theorem dL_law_703 : decode cL_law 703 = .ok (.aload_n 3, 1) := by decide +kernel
theorem dL_law_704 : decode cL_law 704 = .ok (.invokestatic 142, 3) := by decide +kernel
theorem dL_law_707 : decode cL_law 707 = .ok (.istore 5, 2) := by decide +kernel
theorem dL_law_709 : decode cL_law 709 = .ok (.aload_n 2, 1) := by decide +kernel
theorem dL_law_710 : decode cL_law 710 = .ok (.aload_n 0, 1) := by decide +kernel
theorem dL_law_711 : decode cL_law 711 = .ok (.iload 4, 2) := by decide +kernel
theorem dL_law_713 : decode cL_law 713 = .ok (.iconst 1, 1) := by decide +kernel
theorem dL_law_714 : decode cL_law 714 = .ok (.iadd, 1) := by decide +kernel
theorem dL_law_715 : decode cL_law 715 = .ok (.iaload, 1) := by decide +kernel
theorem dL_law_716 : decode cL_law 716 = .ok (.ifCond .eq 7, 3) := by decide +kernel
theorem dL_law_719 : decode cL_law 719 = .ok (.iconst 1, 1) := by decide +kernel
theorem dL_law_720 : decode cL_law 720 = .ok (.goto 4, 3) := by decide +kernel
theorem dL_law_723 : decode cL_law 723 = .ok (.iconst 0, 1) := by decide +kernel
theorem dL_law_724 : decode cL_law 724 = .ok (.invokevirtual 145, 3) := by decide +kernel
theorem dL_law_727 : decode cL_law 727 = .ok (.istore 6, 2) := by decide +kernel
theorem dL_law_729 : decode cL_law 729 = .ok (.aload_n 2, 1) := by decide +kernel
theorem dL_law_730 : decode cL_law 730 = .ok (.invokevirtual 100, 3) := by decide +kernel
theorem dL_law_733 : decode cL_law 733 = .ok (.iload 5, 2) := by decide +kernel
theorem dL_law_735 : decode cL_law 735 = .ok (.if_icmp .eq 5, 3) := by decide +kernel
theorem dL_law_738 : decode cL_law 738 = .ok (.iconst 0, 1) := by decide +kernel
theorem dL_law_739 : decode cL_law 739 = .ok (.ireturn, 1) := by decide +kernel
theorem dL_law_740 : decode cL_law 740 = .ok (.iload 5, 2) := by decide +kernel
theorem dL_law_742 : decode cL_law 742 = .ok (.ifCond .ne 15, 3) := by decide +kernel
theorem dL_law_745 : decode cL_law 745 = .ok (.aload_n 3, 1) := by decide +kernel
theorem dL_law_746 : decode cL_law 746 = .ok (.iconst 0, 1) := by decide +kernel
theorem dL_law_747 : decode cL_law 747 = .ok (.laload, 1) := by decide +kernel
theorem dL_law_748 : decode cL_law 748 = .ok (.iload 6, 2) := by decide +kernel
theorem dL_law_750 : decode cL_law 750 = .ok (.i2l, 1) := by decide +kernel
theorem dL_law_751 : decode cL_law 751 = .ok (.lcmp, 1) := by decide +kernel
theorem dL_law_752 : decode cL_law 752 = .ok (.ifCond .eq 5, 3) := by decide +kernel
theorem dL_law_755 : decode cL_law 755 = .ok (.iconst 0, 1) := by decide +kernel
theorem dL_law_756 : decode cL_law 756 = .ok (.ireturn, 1) := by decide +kernel
theorem dL_law_757 : decode cL_law 757 = .ok (.goto 839, 3) := by decide +kernel
theorem dL_law_760 : decode cL_law 760 = .ok (.aload_n 1, 1) := by decide +kernel
theorem dL_law_761 : decode cL_law 761 = .ok (.aload_n 3, 1) := by decide +kernel
theorem dL_law_762 : decode cL_law 762 = .ok (.invokestatic 146, 3) := by decide +kernel
theorem dL_law_765 : decode cL_law 765 = .ok (.istore 5, 2) := by decide +kernel
theorem dL_law_767 : decode cL_law 767 = .ok (.aload_n 2, 1) := by decide +kernel
theorem dL_law_768 : decode cL_law 768 = .ok (.invokevirtual 148, 3) := by decide +kernel
theorem dL_law_771 : decode cL_law 771 = .ok (.istore 6, 2) := by decide +kernel
theorem dL_law_773 : decode cL_law 773 = .ok (.aload_n 2, 1) := by decide +kernel
theorem dL_law_774 : decode cL_law 774 = .ok (.invokevirtual 100, 3) := by decide +kernel
theorem dL_law_777 : decode cL_law 777 = .ok (.iload 5, 2) := by decide +kernel
theorem dL_law_779 : decode cL_law 779 = .ok (.if_icmp .eq 5, 3) := by decide +kernel
theorem dL_law_782 : decode cL_law 782 = .ok (.iconst 0, 1) := by decide +kernel
theorem dL_law_783 : decode cL_law 783 = .ok (.ireturn, 1) := by decide +kernel
theorem dL_law_784 : decode cL_law 784 = .ok (.iload 5, 2) := by decide +kernel
theorem dL_law_786 : decode cL_law 786 = .ok (.ifCond .ne 15, 3) := by decide +kernel
theorem dL_law_789 : decode cL_law 789 = .ok (.aload_n 3, 1) := by decide +kernel
theorem dL_law_790 : decode cL_law 790 = .ok (.iconst 0, 1) := by decide +kernel
theorem dL_law_791 : decode cL_law 791 = .ok (.laload, 1) := by decide +kernel
theorem dL_law_792 : decode cL_law 792 = .ok (.iload 6, 2) := by decide +kernel
theorem dL_law_794 : decode cL_law 794 = .ok (.i2l, 1) := by decide +kernel
theorem dL_law_795 : decode cL_law 795 = .ok (.lcmp, 1) := by decide +kernel
theorem dL_law_796 : decode cL_law 796 = .ok (.ifCond .eq 5, 3) := by decide +kernel
theorem dL_law_799 : decode cL_law 799 = .ok (.iconst 0, 1) := by decide +kernel
theorem dL_law_800 : decode cL_law 800 = .ok (.ireturn, 1) := by decide +kernel
theorem dL_law_801 : decode cL_law 801 = .ok (.goto 795, 3) := by decide +kernel
theorem dL_law_804 : decode cL_law 804 = .ok (.aload_n 1, 1) := by decide +kernel
theorem dL_law_805 : decode cL_law 805 = .ok (.aload_n 3, 1) := by decide +kernel
theorem dL_law_806 : decode cL_law 806 = .ok (.invokestatic 149, 3) := by decide +kernel
theorem dL_law_809 : decode cL_law 809 = .ok (.istore 5, 2) := by decide +kernel
theorem dL_law_811 : decode cL_law 811 = .ok (.aload_n 2, 1) := by decide +kernel
theorem dL_law_812 : decode cL_law 812 = .ok (.invokevirtual 151, 3) := by decide +kernel
theorem dL_law_815 : decode cL_law 815 = .ok (.istore 6, 2) := by decide +kernel
theorem dL_law_817 : decode cL_law 817 = .ok (.aload_n 2, 1) := by decide +kernel
theorem dL_law_818 : decode cL_law 818 = .ok (.invokevirtual 100, 3) := by decide +kernel
theorem dL_law_821 : decode cL_law 821 = .ok (.iload 5, 2) := by decide +kernel
theorem dL_law_823 : decode cL_law 823 = .ok (.if_icmp .eq 5, 3) := by decide +kernel
theorem dL_law_826 : decode cL_law 826 = .ok (.iconst 0, 1) := by decide +kernel
theorem dL_law_827 : decode cL_law 827 = .ok (.ireturn, 1) := by decide +kernel
theorem dL_law_828 : decode cL_law 828 = .ok (.iload 5, 2) := by decide +kernel
theorem dL_law_830 : decode cL_law 830 = .ok (.ifCond .ne 15, 3) := by decide +kernel
theorem dL_law_833 : decode cL_law 833 = .ok (.aload_n 3, 1) := by decide +kernel
theorem dL_law_834 : decode cL_law 834 = .ok (.iconst 0, 1) := by decide +kernel
theorem dL_law_835 : decode cL_law 835 = .ok (.laload, 1) := by decide +kernel
theorem dL_law_836 : decode cL_law 836 = .ok (.iload 6, 2) := by decide +kernel
theorem dL_law_838 : decode cL_law 838 = .ok (.i2l, 1) := by decide +kernel
theorem dL_law_839 : decode cL_law 839 = .ok (.lcmp, 1) := by decide +kernel
theorem dL_law_840 : decode cL_law 840 = .ok (.ifCond .eq 5, 3) := by decide +kernel
theorem dL_law_843 : decode cL_law 843 = .ok (.iconst 0, 1) := by decide +kernel
theorem dL_law_844 : decode cL_law 844 = .ok (.ireturn, 1) := by decide +kernel
theorem dL_law_845 : decode cL_law 845 = .ok (.goto 751, 3) := by decide +kernel
theorem dL_law_848 : decode cL_law 848 = .ok (.aload_n 1, 1) := by decide +kernel
theorem dL_law_849 : decode cL_law 849 = .ok (.aload_n 0, 1) := by decide +kernel
theorem dL_law_850 : decode cL_law 850 = .ok (.iload 4, 2) := by decide +kernel
theorem dL_law_852 : decode cL_law 852 = .ok (.iconst 1, 1) := by decide +kernel
theorem dL_law_853 : decode cL_law 853 = .ok (.iadd, 1) := by decide +kernel
theorem dL_law_854 : decode cL_law 854 = .ok (.iaload, 1) := by decide +kernel
theorem dL_law_855 : decode cL_law 855 = .ok (.aload_n 3, 1) := by decide +kernel
theorem dL_law_856 : decode cL_law 856 = .ok (.invokestatic 152, 3) := by decide +kernel
theorem dL_law_859 : decode cL_law 859 = .ok (.istore 5, 2) := by decide +kernel
theorem dL_law_861 : decode cL_law 861 = .ok (.aload_n 2, 1) := by decide +kernel
theorem dL_law_862 : decode cL_law 862 = .ok (.aload_n 0, 1) := by decide +kernel
theorem dL_law_863 : decode cL_law 863 = .ok (.iload 4, 2) := by decide +kernel
theorem dL_law_865 : decode cL_law 865 = .ok (.iconst 1, 1) := by decide +kernel
theorem dL_law_866 : decode cL_law 866 = .ok (.iadd, 1) := by decide +kernel
theorem dL_law_867 : decode cL_law 867 = .ok (.iaload, 1) := by decide +kernel
theorem dL_law_868 : decode cL_law 868 = .ok (.invokevirtual 154, 3) := by decide +kernel
theorem dL_law_871 : decode cL_law 871 = .ok (.istore 6, 2) := by decide +kernel
theorem dL_law_873 : decode cL_law 873 = .ok (.aload_n 2, 1) := by decide +kernel
theorem dL_law_874 : decode cL_law 874 = .ok (.invokevirtual 100, 3) := by decide +kernel
theorem dL_law_877 : decode cL_law 877 = .ok (.iload 5, 2) := by decide +kernel
theorem dL_law_879 : decode cL_law 879 = .ok (.if_icmp .eq 5, 3) := by decide +kernel
theorem dL_law_882 : decode cL_law 882 = .ok (.iconst 0, 1) := by decide +kernel
theorem dL_law_883 : decode cL_law 883 = .ok (.ireturn, 1) := by decide +kernel
theorem dL_law_884 : decode cL_law 884 = .ok (.iload 5, 2) := by decide +kernel
theorem dL_law_886 : decode cL_law 886 = .ok (.ifCond .ne 15, 3) := by decide +kernel
theorem dL_law_889 : decode cL_law 889 = .ok (.aload_n 3, 1) := by decide +kernel
theorem dL_law_890 : decode cL_law 890 = .ok (.iconst 0, 1) := by decide +kernel
theorem dL_law_891 : decode cL_law 891 = .ok (.laload, 1) := by decide +kernel
theorem dL_law_892 : decode cL_law 892 = .ok (.iload 6, 2) := by decide +kernel
theorem dL_law_894 : decode cL_law 894 = .ok (.i2l, 1) := by decide +kernel
theorem dL_law_895 : decode cL_law 895 = .ok (.lcmp, 1) := by decide +kernel
theorem dL_law_896 : decode cL_law 896 = .ok (.ifCond .eq 5, 3) := by decide +kernel
theorem dL_law_899 : decode cL_law 899 = .ok (.iconst 0, 1) := by decide +kernel
theorem dL_law_900 : decode cL_law 900 = .ok (.ireturn, 1) := by decide +kernel
theorem dL_law_901 : decode cL_law 901 = .ok (.goto 695, 3) := by decide +kernel
theorem dL_law_904 : decode cL_law 904 = .ok (.aload_n 1, 1) := by decide +kernel
theorem dL_law_905 : decode cL_law 905 = .ok (.aload_n 0, 1) := by decide +kernel
theorem dL_law_906 : decode cL_law 906 = .ok (.iload 4, 2) := by decide +kernel
theorem dL_law_908 : decode cL_law 908 = .ok (.iconst 1, 1) := by decide +kernel
theorem dL_law_909 : decode cL_law 909 = .ok (.iadd, 1) := by decide +kernel
theorem dL_law_910 : decode cL_law 910 = .ok (.iaload, 1) := by decide +kernel
theorem dL_law_911 : decode cL_law 911 = .ok (.aload_n 3, 1) := by decide +kernel
theorem dL_law_912 : decode cL_law 912 = .ok (.invokestatic 155, 3) := by decide +kernel
theorem dL_law_915 : decode cL_law 915 = .ok (.istore 5, 2) := by decide +kernel
theorem dL_law_917 : decode cL_law 917 = .ok (.aload_n 2, 1) := by decide +kernel
theorem dL_law_918 : decode cL_law 918 = .ok (.aload_n 0, 1) := by decide +kernel
theorem dL_law_919 : decode cL_law 919 = .ok (.iload 4, 2) := by decide +kernel
theorem dL_law_921 : decode cL_law 921 = .ok (.iconst 1, 1) := by decide +kernel
theorem dL_law_922 : decode cL_law 922 = .ok (.iadd, 1) := by decide +kernel
theorem dL_law_923 : decode cL_law 923 = .ok (.iaload, 1) := by decide +kernel
theorem dL_law_924 : decode cL_law 924 = .ok (.invokevirtual 157, 3) := by decide +kernel
theorem dL_law_927 : decode cL_law 927 = .ok (.istore 6, 2) := by decide +kernel
theorem dL_law_929 : decode cL_law 929 = .ok (.aload_n 2, 1) := by decide +kernel
theorem dL_law_930 : decode cL_law 930 = .ok (.invokevirtual 100, 3) := by decide +kernel
theorem dL_law_933 : decode cL_law 933 = .ok (.iload 5, 2) := by decide +kernel
theorem dL_law_935 : decode cL_law 935 = .ok (.if_icmp .eq 5, 3) := by decide +kernel
theorem dL_law_938 : decode cL_law 938 = .ok (.iconst 0, 1) := by decide +kernel
theorem dL_law_939 : decode cL_law 939 = .ok (.ireturn, 1) := by decide +kernel
theorem dL_law_940 : decode cL_law 940 = .ok (.iload 5, 2) := by decide +kernel
theorem dL_law_942 : decode cL_law 942 = .ok (.ifCond .ne 15, 3) := by decide +kernel
theorem dL_law_945 : decode cL_law 945 = .ok (.aload_n 3, 1) := by decide +kernel
theorem dL_law_946 : decode cL_law 946 = .ok (.iconst 0, 1) := by decide +kernel
theorem dL_law_947 : decode cL_law 947 = .ok (.laload, 1) := by decide +kernel
theorem dL_law_948 : decode cL_law 948 = .ok (.iload 6, 2) := by decide +kernel
theorem dL_law_950 : decode cL_law 950 = .ok (.i2l, 1) := by decide +kernel
theorem dL_law_951 : decode cL_law 951 = .ok (.lcmp, 1) := by decide +kernel
theorem dL_law_952 : decode cL_law 952 = .ok (.ifCond .eq 5, 3) := by decide +kernel
theorem dL_law_955 : decode cL_law 955 = .ok (.iconst 0, 1) := by decide +kernel
theorem dL_law_956 : decode cL_law 956 = .ok (.ireturn, 1) := by decide +kernel
theorem dL_law_957 : decode cL_law 957 = .ok (.goto 639, 3) := by decide +kernel
theorem dL_law_960 : decode cL_law 960 = .ok (.aload_n 1, 1) := by decide +kernel
theorem dL_law_961 : decode cL_law 961 = .ok (.aload_n 3, 1) := by decide +kernel
theorem dL_law_962 : decode cL_law 962 = .ok (.invokestatic 158, 3) := by decide +kernel
theorem dL_law_965 : decode cL_law 965 = .ok (.istore 5, 2) := by decide +kernel
theorem dL_law_967 : decode cL_law 967 = .ok (.aload_n 2, 1) := by decide +kernel
theorem dL_law_968 : decode cL_law 968 = .ok (.invokevirtual 160, 3) := by decide +kernel
theorem dL_law_971 : decode cL_law 971 = .ok (.istore 6, 2) := by decide +kernel
theorem dL_law_973 : decode cL_law 973 = .ok (.aload_n 2, 1) := by decide +kernel
theorem dL_law_974 : decode cL_law 974 = .ok (.invokevirtual 100, 3) := by decide +kernel
theorem dL_law_977 : decode cL_law 977 = .ok (.iload 5, 2) := by decide +kernel
theorem dL_law_979 : decode cL_law 979 = .ok (.if_icmp .eq 5, 3) := by decide +kernel
theorem dL_law_982 : decode cL_law 982 = .ok (.iconst 0, 1) := by decide +kernel
theorem dL_law_983 : decode cL_law 983 = .ok (.ireturn, 1) := by decide +kernel
theorem dL_law_984 : decode cL_law 984 = .ok (.iload 5, 2) := by decide +kernel
theorem dL_law_986 : decode cL_law 986 = .ok (.ifCond .ne 15, 3) := by decide +kernel
theorem dL_law_989 : decode cL_law 989 = .ok (.aload_n 3, 1) := by decide +kernel
theorem dL_law_990 : decode cL_law 990 = .ok (.iconst 0, 1) := by decide +kernel
theorem dL_law_991 : decode cL_law 991 = .ok (.laload, 1) := by decide +kernel
theorem dL_law_992 : decode cL_law 992 = .ok (.iload 6, 2) := by decide +kernel
theorem dL_law_994 : decode cL_law 994 = .ok (.i2l, 1) := by decide +kernel
theorem dL_law_995 : decode cL_law 995 = .ok (.lcmp, 1) := by decide +kernel
theorem dL_law_996 : decode cL_law 996 = .ok (.ifCond .eq 5, 3) := by decide +kernel
theorem dL_law_999 : decode cL_law 999 = .ok (.iconst 0, 1) := by decide +kernel
theorem dL_law_1000 : decode cL_law 1000 = .ok (.ireturn, 1) := by decide +kernel
theorem dL_law_1001 : decode cL_law 1001 = .ok (.goto 595, 3) := by decide +kernel
theorem dL_law_1004 : decode cL_law 1004 = .ok (.aload_n 1, 1) := by decide +kernel
theorem dL_law_1005 : decode cL_law 1005 = .ok (.aload_n 3, 1) := by decide +kernel
theorem dL_law_1006 : decode cL_law 1006 = .ok (.invokestatic 161, 3) := by decide +kernel
theorem dL_law_1009 : decode cL_law 1009 = .ok (.istore 5, 2) := by decide +kernel
theorem dL_law_1011 : decode cL_law 1011 = .ok (.aload_n 2, 1) := by decide +kernel
theorem dL_law_1012 : decode cL_law 1012 = .ok (.invokevirtual 163, 3) := by decide +kernel
theorem dL_law_1015 : decode cL_law 1015 = .ok (.istore 6, 2) := by decide +kernel
theorem dL_law_1017 : decode cL_law 1017 = .ok (.aload_n 2, 1) := by decide +kernel
theorem dL_law_1018 : decode cL_law 1018 = .ok (.invokevirtual 100, 3) := by decide +kernel
theorem dL_law_1021 : decode cL_law 1021 = .ok (.iload 5, 2) := by decide +kernel
theorem dL_law_1023 : decode cL_law 1023 = .ok (.if_icmp .eq 5, 3) := by decide +kernel
theorem dL_law_1026 : decode cL_law 1026 = .ok (.iconst 0, 1) := by decide +kernel
theorem dL_law_1027 : decode cL_law 1027 = .ok (.ireturn, 1) := by decide +kernel
theorem dL_law_1028 : decode cL_law 1028 = .ok (.iload 5, 2) := by decide +kernel
theorem dL_law_1030 : decode cL_law 1030 = .ok (.ifCond .ne 15, 3) := by decide +kernel
theorem dL_law_1033 : decode cL_law 1033 = .ok (.aload_n 3, 1) := by decide +kernel
theorem dL_law_1034 : decode cL_law 1034 = .ok (.iconst 0, 1) := by decide +kernel
theorem dL_law_1035 : decode cL_law 1035 = .ok (.laload, 1) := by decide +kernel
theorem dL_law_1036 : decode cL_law 1036 = .ok (.iload 6, 2) := by decide +kernel
theorem dL_law_1038 : decode cL_law 1038 = .ok (.i2l, 1) := by decide +kernel
theorem dL_law_1039 : decode cL_law 1039 = .ok (.lcmp, 1) := by decide +kernel
theorem dL_law_1040 : decode cL_law 1040 = .ok (.ifCond .eq 5, 3) := by decide +kernel
theorem dL_law_1043 : decode cL_law 1043 = .ok (.iconst 0, 1) := by decide +kernel
theorem dL_law_1044 : decode cL_law 1044 = .ok (.ireturn, 1) := by decide +kernel
theorem dL_law_1045 : decode cL_law 1045 = .ok (.goto 551, 3) := by decide +kernel
theorem dL_law_1048 : decode cL_law 1048 = .ok (.aload_n 1, 1) := by decide +kernel
theorem dL_law_1049 : decode cL_law 1049 = .ok (.aload_n 0, 1) := by decide +kernel
theorem dL_law_1050 : decode cL_law 1050 = .ok (.iload 4, 2) := by decide +kernel
theorem dL_law_1052 : decode cL_law 1052 = .ok (.iconst 1, 1) := by decide +kernel
theorem dL_law_1053 : decode cL_law 1053 = .ok (.iadd, 1) := by decide +kernel
theorem dL_law_1054 : decode cL_law 1054 = .ok (.iaload, 1) := by decide +kernel
theorem dL_law_1055 : decode cL_law 1055 = .ok (.aload_n 0, 1) := by decide +kernel
theorem dL_law_1056 : decode cL_law 1056 = .ok (.iload 4, 2) := by decide +kernel
theorem dL_law_1058 : decode cL_law 1058 = .ok (.iconst 2, 1) := by decide +kernel
theorem dL_law_1059 : decode cL_law 1059 = .ok (.iadd, 1) := by decide +kernel
theorem dL_law_1060 : decode cL_law 1060 = .ok (.iaload, 1) := by decide +kernel
theorem dL_law_1061 : decode cL_law 1061 = .ok (.aload_n 3, 1) := by decide +kernel
theorem dL_law_1062 : decode cL_law 1062 = .ok (.invokestatic 164, 3) := by decide +kernel
theorem dL_law_1065 : decode cL_law 1065 = .ok (.istore 5, 2) := by decide +kernel
theorem dL_law_1067 : decode cL_law 1067 = .ok (.aload_n 2, 1) := by decide +kernel
theorem dL_law_1068 : decode cL_law 1068 = .ok (.aload_n 0, 1) := by decide +kernel
theorem dL_law_1069 : decode cL_law 1069 = .ok (.iload 4, 2) := by decide +kernel
theorem dL_law_1071 : decode cL_law 1071 = .ok (.iconst 1, 1) := by decide +kernel
theorem dL_law_1072 : decode cL_law 1072 = .ok (.iadd, 1) := by decide +kernel
theorem dL_law_1073 : decode cL_law 1073 = .ok (.iaload, 1) := by decide +kernel
theorem dL_law_1074 : decode cL_law 1074 = .ok (.aload_n 0, 1) := by decide +kernel
theorem dL_law_1075 : decode cL_law 1075 = .ok (.iload 4, 2) := by decide +kernel
theorem dL_law_1077 : decode cL_law 1077 = .ok (.iconst 2, 1) := by decide +kernel
theorem dL_law_1078 : decode cL_law 1078 = .ok (.iadd, 1) := by decide +kernel
theorem dL_law_1079 : decode cL_law 1079 = .ok (.iaload, 1) := by decide +kernel
theorem dL_law_1080 : decode cL_law 1080 = .ok (.invokevirtual 166, 3) := by decide +kernel
theorem dL_law_1083 : decode cL_law 1083 = .ok (.istore 6, 2) := by decide +kernel
theorem dL_law_1085 : decode cL_law 1085 = .ok (.aload_n 2, 1) := by decide +kernel
theorem dL_law_1086 : decode cL_law 1086 = .ok (.invokevirtual 100, 3) := by decide +kernel
theorem dL_law_1089 : decode cL_law 1089 = .ok (.iload 5, 2) := by decide +kernel
theorem dL_law_1091 : decode cL_law 1091 = .ok (.if_icmp .eq 5, 3) := by decide +kernel
theorem dL_law_1094 : decode cL_law 1094 = .ok (.iconst 0, 1) := by decide +kernel
theorem dL_law_1095 : decode cL_law 1095 = .ok (.ireturn, 1) := by decide +kernel
theorem dL_law_1096 : decode cL_law 1096 = .ok (.iload 5, 2) := by decide +kernel
theorem dL_law_1098 : decode cL_law 1098 = .ok (.ifCond .ne 15, 3) := by decide +kernel
theorem dL_law_1101 : decode cL_law 1101 = .ok (.aload_n 3, 1) := by decide +kernel
theorem dL_law_1102 : decode cL_law 1102 = .ok (.iconst 0, 1) := by decide +kernel
theorem dL_law_1103 : decode cL_law 1103 = .ok (.laload, 1) := by decide +kernel
theorem dL_law_1104 : decode cL_law 1104 = .ok (.iload 6, 2) := by decide +kernel
theorem dL_law_1106 : decode cL_law 1106 = .ok (.i2l, 1) := by decide +kernel
theorem dL_law_1107 : decode cL_law 1107 = .ok (.lcmp, 1) := by decide +kernel
theorem dL_law_1108 : decode cL_law 1108 = .ok (.ifCond .eq 5, 3) := by decide +kernel
theorem dL_law_1111 : decode cL_law 1111 = .ok (.iconst 0, 1) := by decide +kernel
theorem dL_law_1112 : decode cL_law 1112 = .ok (.ireturn, 1) := by decide +kernel
theorem dL_law_1113 : decode cL_law 1113 = .ok (.goto 483, 3) := by decide +kernel
theorem dL_law_1116 : decode cL_law 1116 = .ok (.aload_n 1, 1) := by decide +kernel
theorem dL_law_1117 : decode cL_law 1117 = .ok (.aload_n 3, 1) := by decide +kernel
theorem dL_law_1118 : decode cL_law 1118 = .ok (.invokestatic 167, 3) := by decide +kernel
theorem dL_law_1121 : decode cL_law 1121 = .ok (.istore 5, 2) := by decide +kernel
theorem dL_law_1123 : decode cL_law 1123 = .ok (.aload_n 2, 1) := by decide +kernel
theorem dL_law_1124 : decode cL_law 1124 = .ok (.invokevirtual 169, 3) := by decide +kernel
theorem dL_law_1127 : decode cL_law 1127 = .ok (.istore 6, 2) := by decide +kernel
theorem dL_law_1129 : decode cL_law 1129 = .ok (.aload_n 2, 1) := by decide +kernel
theorem dL_law_1130 : decode cL_law 1130 = .ok (.invokevirtual 100, 3) := by decide +kernel
theorem dL_law_1133 : decode cL_law 1133 = .ok (.iload 5, 2) := by decide +kernel
theorem dL_law_1135 : decode cL_law 1135 = .ok (.if_icmp .eq 5, 3) := by decide +kernel
theorem dL_law_1138 : decode cL_law 1138 = .ok (.iconst 0, 1) := by decide +kernel
theorem dL_law_1139 : decode cL_law 1139 = .ok (.ireturn, 1) := by decide +kernel
theorem dL_law_1140 : decode cL_law 1140 = .ok (.iload 5, 2) := by decide +kernel
theorem dL_law_1142 : decode cL_law 1142 = .ok (.ifCond .ne 15, 3) := by decide +kernel
theorem dL_law_1145 : decode cL_law 1145 = .ok (.aload_n 3, 1) := by decide +kernel
theorem dL_law_1146 : decode cL_law 1146 = .ok (.iconst 0, 1) := by decide +kernel
theorem dL_law_1147 : decode cL_law 1147 = .ok (.laload, 1) := by decide +kernel
theorem dL_law_1148 : decode cL_law 1148 = .ok (.iload 6, 2) := by decide +kernel
theorem dL_law_1150 : decode cL_law 1150 = .ok (.i2l, 1) := by decide +kernel
theorem dL_law_1151 : decode cL_law 1151 = .ok (.lcmp, 1) := by decide +kernel
theorem dL_law_1152 : decode cL_law 1152 = .ok (.ifCond .eq 5, 3) := by decide +kernel
theorem dL_law_1155 : decode cL_law 1155 = .ok (.iconst 0, 1) := by decide +kernel
theorem dL_law_1156 : decode cL_law 1156 = .ok (.ireturn, 1) := by decide +kernel
theorem dL_law_1157 : decode cL_law 1157 = .ok (.goto 439, 3) := by decide +kernel
theorem dL_law_1160 : decode cL_law 1160 = .ok (.aload_n 1, 1) := by decide +kernel
theorem dL_law_1161 : decode cL_law 1161 = .ok (.aload_n 0, 1) := by decide +kernel
theorem dL_law_1162 : decode cL_law 1162 = .ok (.iload 4, 2) := by decide +kernel
theorem dL_law_1164 : decode cL_law 1164 = .ok (.iconst 1, 1) := by decide +kernel
theorem dL_law_1165 : decode cL_law 1165 = .ok (.iadd, 1) := by decide +kernel
theorem dL_law_1166 : decode cL_law 1166 = .ok (.iaload, 1) := by decide +kernel
theorem dL_law_1167 : decode cL_law 1167 = .ok (.aload_n 3, 1) := by decide +kernel
theorem dL_law_1168 : decode cL_law 1168 = .ok (.invokestatic 170, 3) := by decide +kernel
theorem dL_law_1171 : decode cL_law 1171 = .ok (.istore 5, 2) := by decide +kernel
theorem dL_law_1173 : decode cL_law 1173 = .ok (.aload_n 2, 1) := by decide +kernel
theorem dL_law_1174 : decode cL_law 1174 = .ok (.aload_n 0, 1) := by decide +kernel
theorem dL_law_1175 : decode cL_law 1175 = .ok (.iload 4, 2) := by decide +kernel
theorem dL_law_1177 : decode cL_law 1177 = .ok (.iconst 1, 1) := by decide +kernel
theorem dL_law_1178 : decode cL_law 1178 = .ok (.iadd, 1) := by decide +kernel
theorem dL_law_1179 : decode cL_law 1179 = .ok (.iaload, 1) := by decide +kernel
theorem dL_law_1180 : decode cL_law 1180 = .ok (.invokevirtual 172, 3) := by decide +kernel
theorem dL_law_1183 : decode cL_law 1183 = .ok (.istore 6, 2) := by decide +kernel
theorem dL_law_1185 : decode cL_law 1185 = .ok (.aload_n 2, 1) := by decide +kernel
theorem dL_law_1186 : decode cL_law 1186 = .ok (.invokevirtual 100, 3) := by decide +kernel
theorem dL_law_1189 : decode cL_law 1189 = .ok (.iload 5, 2) := by decide +kernel
theorem dL_law_1191 : decode cL_law 1191 = .ok (.if_icmp .eq 5, 3) := by decide +kernel
theorem dL_law_1194 : decode cL_law 1194 = .ok (.iconst 0, 1) := by decide +kernel
theorem dL_law_1195 : decode cL_law 1195 = .ok (.ireturn, 1) := by decide +kernel
theorem dL_law_1196 : decode cL_law 1196 = .ok (.iload 5, 2) := by decide +kernel
theorem dL_law_1198 : decode cL_law 1198 = .ok (.ifCond .ne 15, 3) := by decide +kernel
theorem dL_law_1201 : decode cL_law 1201 = .ok (.aload_n 3, 1) := by decide +kernel
theorem dL_law_1202 : decode cL_law 1202 = .ok (.iconst 0, 1) := by decide +kernel
theorem dL_law_1203 : decode cL_law 1203 = .ok (.laload, 1) := by decide +kernel
theorem dL_law_1204 : decode cL_law 1204 = .ok (.iload 6, 2) := by decide +kernel
theorem dL_law_1206 : decode cL_law 1206 = .ok (.i2l, 1) := by decide +kernel
theorem dL_law_1207 : decode cL_law 1207 = .ok (.lcmp, 1) := by decide +kernel
theorem dL_law_1208 : decode cL_law 1208 = .ok (.ifCond .eq 5, 3) := by decide +kernel
theorem dL_law_1211 : decode cL_law 1211 = .ok (.iconst 0, 1) := by decide +kernel
theorem dL_law_1212 : decode cL_law 1212 = .ok (.ireturn, 1) := by decide +kernel
theorem dL_law_1213 : decode cL_law 1213 = .ok (.goto 383, 3) := by decide +kernel
theorem dL_law_1216 : decode cL_law 1216 = .ok (.aload_n 1, 1) := by decide +kernel
theorem dL_law_1217 : decode cL_law 1217 = .ok (.aload_n 0, 1) := by decide +kernel
theorem dL_law_1218 : decode cL_law 1218 = .ok (.iload 4, 2) := by decide +kernel
theorem dL_law_1220 : decode cL_law 1220 = .ok (.iconst 1, 1) := by decide +kernel
theorem dL_law_1221 : decode cL_law 1221 = .ok (.iadd, 1) := by decide +kernel
theorem dL_law_1222 : decode cL_law 1222 = .ok (.iaload, 1) := by decide +kernel
theorem dL_law_1223 : decode cL_law 1223 = .ok (.aload_n 0, 1) := by decide +kernel
theorem dL_law_1224 : decode cL_law 1224 = .ok (.iload 4, 2) := by decide +kernel
theorem dL_law_1226 : decode cL_law 1226 = .ok (.iconst 2, 1) := by decide +kernel
theorem dL_law_1227 : decode cL_law 1227 = .ok (.iadd, 1) := by decide +kernel
theorem dL_law_1228 : decode cL_law 1228 = .ok (.iaload, 1) := by decide +kernel
theorem dL_law_1229 : decode cL_law 1229 = .ok (.aload_n 3, 1) := by decide +kernel
theorem dL_law_1230 : decode cL_law 1230 = .ok (.invokestatic 173, 3) := by decide +kernel
theorem dL_law_1233 : decode cL_law 1233 = .ok (.istore 5, 2) := by decide +kernel
theorem dL_law_1235 : decode cL_law 1235 = .ok (.aload_n 2, 1) := by decide +kernel
theorem dL_law_1236 : decode cL_law 1236 = .ok (.aload_n 0, 1) := by decide +kernel
theorem dL_law_1237 : decode cL_law 1237 = .ok (.iload 4, 2) := by decide +kernel
theorem dL_law_1239 : decode cL_law 1239 = .ok (.iconst 1, 1) := by decide +kernel
theorem dL_law_1240 : decode cL_law 1240 = .ok (.iadd, 1) := by decide +kernel
theorem dL_law_1241 : decode cL_law 1241 = .ok (.iaload, 1) := by decide +kernel
theorem dL_law_1242 : decode cL_law 1242 = .ok (.aload_n 0, 1) := by decide +kernel
theorem dL_law_1243 : decode cL_law 1243 = .ok (.iload 4, 2) := by decide +kernel
theorem dL_law_1245 : decode cL_law 1245 = .ok (.iconst 2, 1) := by decide +kernel
theorem dL_law_1246 : decode cL_law 1246 = .ok (.iadd, 1) := by decide +kernel
theorem dL_law_1247 : decode cL_law 1247 = .ok (.iaload, 1) := by decide +kernel
theorem dL_law_1248 : decode cL_law 1248 = .ok (.invokevirtual 175, 3) := by decide +kernel
theorem dL_law_1251 : decode cL_law 1251 = .ok (.istore 6, 2) := by decide +kernel
theorem dL_law_1253 : decode cL_law 1253 = .ok (.aload_n 2, 1) := by decide +kernel
theorem dL_law_1254 : decode cL_law 1254 = .ok (.invokevirtual 100, 3) := by decide +kernel
theorem dL_law_1257 : decode cL_law 1257 = .ok (.iload 5, 2) := by decide +kernel
theorem dL_law_1259 : decode cL_law 1259 = .ok (.if_icmp .eq 5, 3) := by decide +kernel
theorem dL_law_1262 : decode cL_law 1262 = .ok (.iconst 0, 1) := by decide +kernel
theorem dL_law_1263 : decode cL_law 1263 = .ok (.ireturn, 1) := by decide +kernel
theorem dL_law_1264 : decode cL_law 1264 = .ok (.iload 5, 2) := by decide +kernel
theorem dL_law_1266 : decode cL_law 1266 = .ok (.ifCond .ne 15, 3) := by decide +kernel
theorem dL_law_1269 : decode cL_law 1269 = .ok (.aload_n 3, 1) := by decide +kernel
theorem dL_law_1270 : decode cL_law 1270 = .ok (.iconst 0, 1) := by decide +kernel
theorem dL_law_1271 : decode cL_law 1271 = .ok (.laload, 1) := by decide +kernel
theorem dL_law_1272 : decode cL_law 1272 = .ok (.iload 6, 2) := by decide +kernel
theorem dL_law_1274 : decode cL_law 1274 = .ok (.i2l, 1) := by decide +kernel
theorem dL_law_1275 : decode cL_law 1275 = .ok (.lcmp, 1) := by decide +kernel
theorem dL_law_1276 : decode cL_law 1276 = .ok (.ifCond .eq 5, 3) := by decide +kernel
theorem dL_law_1279 : decode cL_law 1279 = .ok (.iconst 0, 1) := by decide +kernel
theorem dL_law_1280 : decode cL_law 1280 = .ok (.ireturn, 1) := by decide +kernel
theorem dL_law_1281 : decode cL_law 1281 = .ok (.goto 315, 3) := by decide +kernel
theorem dL_law_1284 : decode cL_law 1284 = .ok (.aload_n 1, 1) := by decide +kernel
theorem dL_law_1285 : decode cL_law 1285 = .ok (.aload_n 0, 1) := by decide +kernel
theorem dL_law_1286 : decode cL_law 1286 = .ok (.iload 4, 2) := by decide +kernel
theorem dL_law_1288 : decode cL_law 1288 = .ok (.iconst 1, 1) := by decide +kernel
theorem dL_law_1289 : decode cL_law 1289 = .ok (.iadd, 1) := by decide +kernel
theorem dL_law_1290 : decode cL_law 1290 = .ok (.iaload, 1) := by decide +kernel
theorem dL_law_1291 : decode cL_law 1291 = .ok (.aload_n 0, 1) := by decide +kernel
theorem dL_law_1292 : decode cL_law 1292 = .ok (.iload 4, 2) := by decide +kernel
theorem dL_law_1294 : decode cL_law 1294 = .ok (.iconst 2, 1) := by decide +kernel
theorem dL_law_1295 : decode cL_law 1295 = .ok (.iadd, 1) := by decide +kernel
theorem dL_law_1296 : decode cL_law 1296 = .ok (.iaload, 1) := by decide +kernel
theorem dL_law_1297 : decode cL_law 1297 = .ok (.i2l, 1) := by decide +kernel
theorem dL_law_1298 : decode cL_law 1298 = .ok (.bipush 32, 2) := by decide +kernel
theorem dL_law_1300 : decode cL_law 1300 = .ok (.lshl, 1) := by decide +kernel
theorem dL_law_1301 : decode cL_law 1301 = .ok (.aload_n 0, 1) := by decide +kernel
theorem dL_law_1302 : decode cL_law 1302 = .ok (.iload 4, 2) := by decide +kernel
theorem dL_law_1304 : decode cL_law 1304 = .ok (.iconst 3, 1) := by decide +kernel
theorem dL_law_1305 : decode cL_law 1305 = .ok (.iadd, 1) := by decide +kernel
theorem dL_law_1306 : decode cL_law 1306 = .ok (.iaload, 1) := by decide +kernel
theorem dL_law_1307 : decode cL_law 1307 = .ok (.i2l, 1) := by decide +kernel
theorem dL_law_1308 : decode cL_law 1308 = .ok (.ldc2_w 176, 3) := by decide +kernel
theorem dL_law_1311 : decode cL_law 1311 = .ok (.land, 1) := by decide +kernel
theorem dL_law_1312 : decode cL_law 1312 = .ok (.lor, 1) := by decide +kernel
theorem dL_law_1313 : decode cL_law 1313 = .ok (.aload_n 3, 1) := by decide +kernel
theorem dL_law_1314 : decode cL_law 1314 = .ok (.invokestatic 178, 3) := by decide +kernel
theorem dL_law_1317 : decode cL_law 1317 = .ok (.istore 5, 2) := by decide +kernel
theorem dL_law_1319 : decode cL_law 1319 = .ok (.aload_n 2, 1) := by decide +kernel
theorem dL_law_1320 : decode cL_law 1320 = .ok (.aload_n 0, 1) := by decide +kernel
theorem dL_law_1321 : decode cL_law 1321 = .ok (.iload 4, 2) := by decide +kernel
theorem dL_law_1323 : decode cL_law 1323 = .ok (.iconst 1, 1) := by decide +kernel
theorem dL_law_1324 : decode cL_law 1324 = .ok (.iadd, 1) := by decide +kernel
theorem dL_law_1325 : decode cL_law 1325 = .ok (.iaload, 1) := by decide +kernel
theorem dL_law_1326 : decode cL_law 1326 = .ok (.aload_n 0, 1) := by decide +kernel
theorem dL_law_1327 : decode cL_law 1327 = .ok (.iload 4, 2) := by decide +kernel
theorem dL_law_1329 : decode cL_law 1329 = .ok (.iconst 2, 1) := by decide +kernel
theorem dL_law_1330 : decode cL_law 1330 = .ok (.iadd, 1) := by decide +kernel
theorem dL_law_1331 : decode cL_law 1331 = .ok (.iaload, 1) := by decide +kernel
theorem dL_law_1332 : decode cL_law 1332 = .ok (.i2l, 1) := by decide +kernel
theorem dL_law_1333 : decode cL_law 1333 = .ok (.bipush 32, 2) := by decide +kernel
theorem dL_law_1335 : decode cL_law 1335 = .ok (.lshl, 1) := by decide +kernel
theorem dL_law_1336 : decode cL_law 1336 = .ok (.aload_n 0, 1) := by decide +kernel
theorem dL_law_1337 : decode cL_law 1337 = .ok (.iload 4, 2) := by decide +kernel
theorem dL_law_1339 : decode cL_law 1339 = .ok (.iconst 3, 1) := by decide +kernel
theorem dL_law_1340 : decode cL_law 1340 = .ok (.iadd, 1) := by decide +kernel
theorem dL_law_1341 : decode cL_law 1341 = .ok (.iaload, 1) := by decide +kernel
theorem dL_law_1342 : decode cL_law 1342 = .ok (.i2l, 1) := by decide +kernel
theorem dL_law_1343 : decode cL_law 1343 = .ok (.ldc2_w 176, 3) := by decide +kernel
theorem dL_law_1346 : decode cL_law 1346 = .ok (.land, 1) := by decide +kernel
theorem dL_law_1347 : decode cL_law 1347 = .ok (.lor, 1) := by decide +kernel
theorem dL_law_1348 : decode cL_law 1348 = .ok (.invokevirtual 181, 3) := by decide +kernel
theorem dL_law_1351 : decode cL_law 1351 = .ok (.istore 6, 2) := by decide +kernel
theorem dL_law_1353 : decode cL_law 1353 = .ok (.aload_n 2, 1) := by decide +kernel
theorem dL_law_1354 : decode cL_law 1354 = .ok (.invokevirtual 100, 3) := by decide +kernel
theorem dL_law_1357 : decode cL_law 1357 = .ok (.iload 5, 2) := by decide +kernel
theorem dL_law_1359 : decode cL_law 1359 = .ok (.if_icmp .eq 5, 3) := by decide +kernel
theorem dL_law_1362 : decode cL_law 1362 = .ok (.iconst 0, 1) := by decide +kernel
theorem dL_law_1363 : decode cL_law 1363 = .ok (.ireturn, 1) := by decide +kernel
theorem dL_law_1364 : decode cL_law 1364 = .ok (.iload 5, 2) := by decide +kernel
theorem dL_law_1366 : decode cL_law 1366 = .ok (.ifCond .ne 15, 3) := by decide +kernel
theorem dL_law_1369 : decode cL_law 1369 = .ok (.aload_n 3, 1) := by decide +kernel
theorem dL_law_1370 : decode cL_law 1370 = .ok (.iconst 0, 1) := by decide +kernel
theorem dL_law_1371 : decode cL_law 1371 = .ok (.laload, 1) := by decide +kernel
theorem dL_law_1372 : decode cL_law 1372 = .ok (.iload 6, 2) := by decide +kernel
theorem dL_law_1374 : decode cL_law 1374 = .ok (.i2l, 1) := by decide +kernel
theorem dL_law_1375 : decode cL_law 1375 = .ok (.lcmp, 1) := by decide +kernel
theorem dL_law_1376 : decode cL_law 1376 = .ok (.ifCond .eq 5, 3) := by decide +kernel
theorem dL_law_1379 : decode cL_law 1379 = .ok (.iconst 0, 1) := by decide +kernel
theorem dL_law_1380 : decode cL_law 1380 = .ok (.ireturn, 1) := by decide +kernel
theorem dL_law_1381 : decode cL_law 1381 = .ok (.goto 215, 3) := by decide +kernel
theorem dL_law_1384 : decode cL_law 1384 = .ok (.aload_n 1, 1) := by decide +kernel
theorem dL_law_1385 : decode cL_law 1385 = .ok (.aload_n 0, 1) := by decide +kernel
theorem dL_law_1386 : decode cL_law 1386 = .ok (.iload 4, 2) := by decide +kernel
theorem dL_law_1388 : decode cL_law 1388 = .ok (.iconst 1, 1) := by decide +kernel
theorem dL_law_1389 : decode cL_law 1389 = .ok (.iadd, 1) := by decide +kernel
theorem dL_law_1390 : decode cL_law 1390 = .ok (.iaload, 1) := by decide +kernel
theorem dL_law_1391 : decode cL_law 1391 = .ok (.i2l, 1) := by decide +kernel
theorem dL_law_1392 : decode cL_law 1392 = .ok (.bipush 32, 2) := by decide +kernel
theorem dL_law_1394 : decode cL_law 1394 = .ok (.lshl, 1) := by decide +kernel
theorem dL_law_1395 : decode cL_law 1395 = .ok (.aload_n 0, 1) := by decide +kernel
theorem dL_law_1396 : decode cL_law 1396 = .ok (.iload 4, 2) := by decide +kernel
theorem dL_law_1398 : decode cL_law 1398 = .ok (.iconst 2, 1) := by decide +kernel
theorem dL_law_1399 : decode cL_law 1399 = .ok (.iadd, 1) := by decide +kernel
theorem dL_law_1400 : decode cL_law 1400 = .ok (.iaload, 1) := by decide +kernel
theorem dL_law_1401 : decode cL_law 1401 = .ok (.i2l, 1) := by decide +kernel
theorem dL_law_1402 : decode cL_law 1402 = .ok (.ldc2_w 176, 3) := by decide +kernel
theorem dL_law_1405 : decode cL_law 1405 = .ok (.land, 1) := by decide +kernel
theorem dL_law_1406 : decode cL_law 1406 = .ok (.lor, 1) := by decide +kernel
theorem dL_law_1407 : decode cL_law 1407 = .ok (.aload_n 0, 1) := by decide +kernel
theorem dL_law_1408 : decode cL_law 1408 = .ok (.iload 4, 2) := by decide +kernel
theorem dL_law_1410 : decode cL_law 1410 = .ok (.iconst 3, 1) := by decide +kernel
theorem dL_law_1411 : decode cL_law 1411 = .ok (.iadd, 1) := by decide +kernel
theorem dL_law_1412 : decode cL_law 1412 = .ok (.iaload, 1) := by decide +kernel
theorem dL_law_1413 : decode cL_law 1413 = .ok (.aload_n 3, 1) := by decide +kernel
theorem dL_law_1414 : decode cL_law 1414 = .ok (.invokestatic 182, 3) := by decide +kernel
theorem dL_law_1417 : decode cL_law 1417 = .ok (.istore 5, 2) := by decide +kernel
theorem dL_law_1419 : decode cL_law 1419 = .ok (.aload_n 2, 1) := by decide +kernel
theorem dL_law_1420 : decode cL_law 1420 = .ok (.aload_n 0, 1) := by decide +kernel
theorem dL_law_1421 : decode cL_law 1421 = .ok (.iload 4, 2) := by decide +kernel
theorem dL_law_1423 : decode cL_law 1423 = .ok (.iconst 1, 1) := by decide +kernel
theorem dL_law_1424 : decode cL_law 1424 = .ok (.iadd, 1) := by decide +kernel
theorem dL_law_1425 : decode cL_law 1425 = .ok (.iaload, 1) := by decide +kernel
theorem dL_law_1426 : decode cL_law 1426 = .ok (.i2l, 1) := by decide +kernel
theorem dL_law_1427 : decode cL_law 1427 = .ok (.bipush 32, 2) := by decide +kernel
theorem dL_law_1429 : decode cL_law 1429 = .ok (.lshl, 1) := by decide +kernel
theorem dL_law_1430 : decode cL_law 1430 = .ok (.aload_n 0, 1) := by decide +kernel
theorem dL_law_1431 : decode cL_law 1431 = .ok (.iload 4, 2) := by decide +kernel
theorem dL_law_1433 : decode cL_law 1433 = .ok (.iconst 2, 1) := by decide +kernel
theorem dL_law_1434 : decode cL_law 1434 = .ok (.iadd, 1) := by decide +kernel
theorem dL_law_1435 : decode cL_law 1435 = .ok (.iaload, 1) := by decide +kernel
theorem dL_law_1436 : decode cL_law 1436 = .ok (.i2l, 1) := by decide +kernel
theorem dL_law_1437 : decode cL_law 1437 = .ok (.ldc2_w 176, 3) := by decide +kernel
theorem dL_law_1440 : decode cL_law 1440 = .ok (.land, 1) := by decide +kernel
theorem dL_law_1441 : decode cL_law 1441 = .ok (.lor, 1) := by decide +kernel
theorem dL_law_1442 : decode cL_law 1442 = .ok (.aload_n 0, 1) := by decide +kernel
theorem dL_law_1443 : decode cL_law 1443 = .ok (.iload 4, 2) := by decide +kernel
theorem dL_law_1445 : decode cL_law 1445 = .ok (.iconst 3, 1) := by decide +kernel
theorem dL_law_1446 : decode cL_law 1446 = .ok (.iadd, 1) := by decide +kernel
theorem dL_law_1447 : decode cL_law 1447 = .ok (.iaload, 1) := by decide +kernel
theorem dL_law_1448 : decode cL_law 1448 = .ok (.invokevirtual 185, 3) := by decide +kernel
theorem dL_law_1451 : decode cL_law 1451 = .ok (.istore 6, 2) := by decide +kernel
theorem dL_law_1453 : decode cL_law 1453 = .ok (.aload_n 2, 1) := by decide +kernel
theorem dL_law_1454 : decode cL_law 1454 = .ok (.invokevirtual 100, 3) := by decide +kernel
theorem dL_law_1457 : decode cL_law 1457 = .ok (.iload 5, 2) := by decide +kernel
theorem dL_law_1459 : decode cL_law 1459 = .ok (.if_icmp .eq 5, 3) := by decide +kernel
theorem dL_law_1462 : decode cL_law 1462 = .ok (.iconst 0, 1) := by decide +kernel
theorem dL_law_1463 : decode cL_law 1463 = .ok (.ireturn, 1) := by decide +kernel
theorem dL_law_1464 : decode cL_law 1464 = .ok (.iload 5, 2) := by decide +kernel
theorem dL_law_1466 : decode cL_law 1466 = .ok (.ifCond .ne 15, 3) := by decide +kernel
theorem dL_law_1469 : decode cL_law 1469 = .ok (.aload_n 3, 1) := by decide +kernel
theorem dL_law_1470 : decode cL_law 1470 = .ok (.iconst 0, 1) := by decide +kernel
theorem dL_law_1471 : decode cL_law 1471 = .ok (.laload, 1) := by decide +kernel
theorem dL_law_1472 : decode cL_law 1472 = .ok (.iload 6, 2) := by decide +kernel
theorem dL_law_1474 : decode cL_law 1474 = .ok (.i2l, 1) := by decide +kernel
theorem dL_law_1475 : decode cL_law 1475 = .ok (.lcmp, 1) := by decide +kernel
theorem dL_law_1476 : decode cL_law 1476 = .ok (.ifCond .eq 5, 3) := by decide +kernel
theorem dL_law_1479 : decode cL_law 1479 = .ok (.iconst 0, 1) := by decide +kernel
theorem dL_law_1480 : decode cL_law 1480 = .ok (.ireturn, 1) := by decide +kernel
theorem dL_law_1481 : decode cL_law 1481 = .ok (.goto 115, 3) := by decide +kernel
theorem dL_law_1484 : decode cL_law 1484 = .ok (.aload_n 1, 1) := by decide +kernel
theorem dL_law_1485 : decode cL_law 1485 = .ok (.aload_n 0, 1) := by decide +kernel
theorem dL_law_1486 : decode cL_law 1486 = .ok (.iload 4, 2) := by decide +kernel
theorem dL_law_1488 : decode cL_law 1488 = .ok (.iconst 1, 1) := by decide +kernel
theorem dL_law_1489 : decode cL_law 1489 = .ok (.iadd, 1) := by decide +kernel
theorem dL_law_1490 : decode cL_law 1490 = .ok (.iaload, 1) := by decide +kernel
theorem dL_law_1491 : decode cL_law 1491 = .ok (.aload_n 3, 1) := by decide +kernel
theorem dL_law_1492 : decode cL_law 1492 = .ok (.invokestatic 186, 3) := by decide +kernel
theorem dL_law_1495 : decode cL_law 1495 = .ok (.istore 5, 2) := by decide +kernel
theorem dL_law_1497 : decode cL_law 1497 = .ok (.aload_n 2, 1) := by decide +kernel
theorem dL_law_1498 : decode cL_law 1498 = .ok (.aload_n 0, 1) := by decide +kernel
theorem dL_law_1499 : decode cL_law 1499 = .ok (.iload 4, 2) := by decide +kernel
theorem dL_law_1501 : decode cL_law 1501 = .ok (.iconst 1, 1) := by decide +kernel
theorem dL_law_1502 : decode cL_law 1502 = .ok (.iadd, 1) := by decide +kernel
theorem dL_law_1503 : decode cL_law 1503 = .ok (.iaload, 1) := by decide +kernel
theorem dL_law_1504 : decode cL_law 1504 = .ok (.invokevirtual 188, 3) := by decide +kernel
theorem dL_law_1507 : decode cL_law 1507 = .ok (.istore 6, 2) := by decide +kernel
theorem dL_law_1509 : decode cL_law 1509 = .ok (.aload_n 2, 1) := by decide +kernel
theorem dL_law_1510 : decode cL_law 1510 = .ok (.invokevirtual 100, 3) := by decide +kernel
theorem dL_law_1513 : decode cL_law 1513 = .ok (.iload 5, 2) := by decide +kernel
theorem dL_law_1515 : decode cL_law 1515 = .ok (.if_icmp .eq 5, 3) := by decide +kernel
theorem dL_law_1518 : decode cL_law 1518 = .ok (.iconst 0, 1) := by decide +kernel
theorem dL_law_1519 : decode cL_law 1519 = .ok (.ireturn, 1) := by decide +kernel
theorem dL_law_1520 : decode cL_law 1520 = .ok (.iload 5, 2) := by decide +kernel
theorem dL_law_1522 : decode cL_law 1522 = .ok (.ifCond .ne 15, 3) := by decide +kernel
theorem dL_law_1525 : decode cL_law 1525 = .ok (.aload_n 3, 1) := by decide +kernel
theorem dL_law_1526 : decode cL_law 1526 = .ok (.iconst 0, 1) := by decide +kernel
theorem dL_law_1527 : decode cL_law 1527 = .ok (.laload, 1) := by decide +kernel
theorem dL_law_1528 : decode cL_law 1528 = .ok (.iload 6, 2) := by decide +kernel
theorem dL_law_1530 : decode cL_law 1530 = .ok (.i2l, 1) := by decide +kernel
theorem dL_law_1531 : decode cL_law 1531 = .ok (.lcmp, 1) := by decide +kernel
theorem dL_law_1532 : decode cL_law 1532 = .ok (.ifCond .eq 5, 3) := by decide +kernel
theorem dL_law_1535 : decode cL_law 1535 = .ok (.iconst 0, 1) := by decide +kernel
theorem dL_law_1536 : decode cL_law 1536 = .ok (.ireturn, 1) := by decide +kernel
theorem dL_law_1537 : decode cL_law 1537 = .ok (.goto 59, 3) := by decide +kernel
theorem dL_law_1540 : decode cL_law 1540 = .ok (.aload_n 1, 1) := by decide +kernel
theorem dL_law_1541 : decode cL_law 1541 = .ok (.aload_n 0, 1) := by decide +kernel
theorem dL_law_1542 : decode cL_law 1542 = .ok (.iload 4, 2) := by decide +kernel
theorem dL_law_1544 : decode cL_law 1544 = .ok (.iconst 1, 1) := by decide +kernel
theorem dL_law_1545 : decode cL_law 1545 = .ok (.iadd, 1) := by decide +kernel
theorem dL_law_1546 : decode cL_law 1546 = .ok (.iaload, 1) := by decide +kernel
theorem dL_law_1547 : decode cL_law 1547 = .ok (.aload_n 3, 1) := by decide +kernel
theorem dL_law_1548 : decode cL_law 1548 = .ok (.invokestatic 189, 3) := by decide +kernel
theorem dL_law_1551 : decode cL_law 1551 = .ok (.istore 5, 2) := by decide +kernel
theorem dL_law_1553 : decode cL_law 1553 = .ok (.aload_n 2, 1) := by decide +kernel
theorem dL_law_1554 : decode cL_law 1554 = .ok (.aload_n 0, 1) := by decide +kernel
theorem dL_law_1555 : decode cL_law 1555 = .ok (.iload 4, 2) := by decide +kernel
theorem dL_law_1557 : decode cL_law 1557 = .ok (.iconst 1, 1) := by decide +kernel
theorem dL_law_1558 : decode cL_law 1558 = .ok (.iadd, 1) := by decide +kernel
theorem dL_law_1559 : decode cL_law 1559 = .ok (.iaload, 1) := by decide +kernel
theorem dL_law_1560 : decode cL_law 1560 = .ok (.invokevirtual 191, 3) := by decide +kernel
theorem dL_law_1563 : decode cL_law 1563 = .ok (.istore 6, 2) := by decide +kernel
theorem dL_law_1565 : decode cL_law 1565 = .ok (.aload_n 2, 1) := by decide +kernel
theorem dL_law_1566 : decode cL_law 1566 = .ok (.invokevirtual 100, 3) := by decide +kernel
theorem dL_law_1569 : decode cL_law 1569 = .ok (.iload 5, 2) := by decide +kernel
theorem dL_law_1571 : decode cL_law 1571 = .ok (.if_icmp .eq 5, 3) := by decide +kernel
theorem dL_law_1574 : decode cL_law 1574 = .ok (.iconst 0, 1) := by decide +kernel
theorem dL_law_1575 : decode cL_law 1575 = .ok (.ireturn, 1) := by decide +kernel
theorem dL_law_1576 : decode cL_law 1576 = .ok (.iload 5, 2) := by decide +kernel
theorem dL_law_1578 : decode cL_law 1578 = .ok (.ifCond .ne 15, 3) := by decide +kernel
theorem dL_law_1581 : decode cL_law 1581 = .ok (.aload_n 3, 1) := by decide +kernel
theorem dL_law_1582 : decode cL_law 1582 = .ok (.iconst 0, 1) := by decide +kernel
theorem dL_law_1583 : decode cL_law 1583 = .ok (.laload, 1) := by decide +kernel
theorem dL_law_1584 : decode cL_law 1584 = .ok (.iload 6, 2) := by decide +kernel
theorem dL_law_1586 : decode cL_law 1586 = .ok (.i2l, 1) := by decide +kernel
theorem dL_law_1587 : decode cL_law 1587 = .ok (.lcmp, 1) := by decide +kernel
theorem dL_law_1588 : decode cL_law 1588 = .ok (.ifCond .eq 5, 3) := by decide +kernel
theorem dL_law_1591 : decode cL_law 1591 = .ok (.iconst 0, 1) := by decide +kernel
theorem dL_law_1592 : decode cL_law 1592 = .ok (.ireturn, 1) := by decide +kernel
theorem dL_law_1593 : decode cL_law 1593 = .ok (.goto 3, 3) := by decide +kernel
theorem dL_law_1596 : decode cL_law 1596 = .ok (.iinc 4 4, 3) := by decide +kernel
theorem dL_law_1599 : decode cL_law 1599 = .ok (.goto (-1576), 3) := by decide +kernel
theorem dL_law_1602 : decode cL_law 1602 = .ok (.iconst 1, 1) := by decide +kernel
theorem dL_law_1603 : decode cL_law 1603 = .ok (.ireturn, 1) := by decide +kernel
