theorem dX8_wordFrom_21 : decode cX8_wordFrom 21 = .ok (.istore 4, 2) := by decide +kernel
theorem dX8_wordFrom_23 : decode cX8_wordFrom 23 = .ok (.iconst 0, 1) := by decide +kernel
theorem dX8_wordFrom_24 : decode cX8_wordFrom 24 = .ok (.istore 5, 2) := by decide +kernel
theorem dX8_wordFrom_26 : decode cX8_wordFrom 26 = .ok (.iload 5, 2) := by decide +kernel
theorem dX8_wordFrom_28 : decode cX8_wordFrom 28 = .ok (.bipush 8, 2) := by decide +kernel
theorem dX8_wordFrom_30 : decode cX8_wordFrom 30 = .ok (.if_icmp .ge 58, 3) := by decide +kernel
theorem dX8_wordFrom_33 : decode cX8_wordFrom 33 = .ok (.iload 4, 2) := by decide +kernel
theorem dX8_wordFrom_35 : decode cX8_wordFrom 35 = .ok (.ifCond .eq 53, 3) := by decide +kernel
theorem dX8_wordFrom_38 : decode cX8_wordFrom 38 = .ok (.aload_n 0, 1) := by decide +kernel
theorem dX8_wordFrom_39 : decode cX8_wordFrom 39 = .ok (.getfield 56, 3) := by decide +kernel
theorem dX8_wordFrom_42 : decode cX8_wordFrom 42 = .ok (.bipush 8, 2) := by decide +kernel
theorem dX8_wordFrom_44 : decode cX8_wordFrom 44 = .ok (.iload_n 3, 1) := by decide +kernel
theorem dX8_wordFrom_45 : decode cX8_wordFrom 45 = .ok (.imul, 1) := by decide +kernel
theorem dX8_wordFrom_46 : decode cX8_wordFrom 46 = .ok (.iload 5, 2) := by decide +kernel
theorem dX8_wordFrom_48 : decode cX8_wordFrom 48 = .ok (.iadd, 1) := by decide +kernel
theorem dX8_wordFrom_49 : decode cX8_wordFrom 49 = .ok (.iaload, 1) := by decide +kernel
theorem dX8_wordFrom_50 : decode cX8_wordFrom 50 = .ok (.iload_n 1, 1) := by decide +kernel
theorem dX8_wordFrom_51 : decode cX8_wordFrom 51 = .ok (.iload 5, 2) := by decide +kernel
theorem dX8_wordFrom_53 : decode cX8_wordFrom 53 = .ok (.iadd, 1) := by decide +kernel
theorem dX8_wordFrom_54 : decode cX8_wordFrom 54 = .ok (.iload_n 2, 1) := by decide +kernel
theorem dX8_wordFrom_55 : decode cX8_wordFrom 55 = .ok (.if_icmp .ge 15, 3) := by decide +kernel
theorem dX8_wordFrom_58 : decode cX8_wordFrom 58 = .ok (.aload_n 0, 1) := by decide +kernel
theorem dX8_wordFrom_59 : decode cX8_wordFrom 59 = .ok (.getfield 26, 3) := by decide +kernel
theorem dX8_wordFrom_62 : decode cX8_wordFrom 62 = .ok (.iload_n 1, 1) := by decide +kernel
theorem dX8_wordFrom_63 : decode cX8_wordFrom 63 = .ok (.iload 5, 2) := by decide +kernel
theorem dX8_wordFrom_65 : decode cX8_wordFrom 65 = .ok (.iadd, 1) := by decide +kernel
theorem dX8_wordFrom_66 : decode cX8_wordFrom 66 = .ok (.iaload, 1) := by decide +kernel
theorem dX8_wordFrom_67 : decode cX8_wordFrom 67 = .ok (.goto 5, 3) := by decide +kernel
theorem dX8_wordFrom_70 : decode cX8_wordFrom 70 = .ok (.bipush 32, 2) := by decide +kernel
theorem dX8_wordFrom_72 : decode cX8_wordFrom 72 = .ok (.if_icmp .ne 7, 3) := by decide +kernel
theorem dX8_wordFrom_75 : decode cX8_wordFrom 75 = .ok (.iconst 1, 1) := by decide +kernel
theorem dX8_wordFrom_76 : decode cX8_wordFrom 76 = .ok (.goto 4, 3) := by decide +kernel
theorem dX8_wordFrom_79 : decode cX8_wordFrom 79 = .ok (.iconst 0, 1) := by decide +kernel
theorem dX8_wordFrom_80 : decode cX8_wordFrom 80 = .ok (.istore 4, 2) := by decide +kernel
theorem dX8_wordFrom_82 : decode cX8_wordFrom 82 = .ok (.iinc 5 1, 3) := by decide +kernel
theorem dX8_wordFrom_85 : decode cX8_wordFrom 85 = .ok (.goto (-59), 3) := by decide +kernel
theorem dX8_wordFrom_88 : decode cX8_wordFrom 88 = .ok (.iload 4, 2) := by decide +kernel
theorem dX8_wordFrom_90 : decode cX8_wordFrom 90 = .ok (.ifCond .eq 5, 3) := by decide +kernel
theorem dX8_wordFrom_93 : decode cX8_wordFrom 93 = .ok (.iload_n 3, 1) := by decide +kernel
theorem dX8_wordFrom_94 : decode cX8_wordFrom 94 = .ok (.ireturn, 1) := by decide +kernel
theorem dX8_wordFrom_95 : decode cX8_wordFrom 95 = .ok (.iinc 3 1, 3) := by decide +kernel
theorem dX8_wordFrom_98 : decode cX8_wordFrom 98 = .ok (.goto (-96), 3) := by decide +kernel
theorem dX8_wordFrom_101 : decode cX8_wordFrom 101 = .ok (.bipush 12, 2) := by decide +kernel
theorem dX8_wordFrom_103 : decode cX8_wordFrom 103 = .ok (.ireturn, 1) := by decide +kernel
theorem dX8_next_0 : decode cX8_next 0 = .ok (.aload_n 0, 1) := by decide +kernel
theorem dX8_next_1 : decode cX8_next 1 = .ok (.getfield 140, 3) := by decide +kernel
theorem dX8_next_4 : decode cX8_next 4 = .ok (.aload_n 0, 1) := by decide +kernel
theorem dX8_next_5 : decode cX8_next 5 = .ok (.getfield 80, 3) := by decide +kernel
theorem dX8_next_8 : decode cX8_next 8 = .ok (.if_icmp .ge 44, 3) := by decide +kernel
theorem dX8_next_11 : decode cX8_next 11 = .ok (.aload_n 0, 1) := by decide +kernel
theorem dX8_next_12 : decode cX8_next 12 = .ok (.getfield 26, 3) := by decide +kernel
theorem dX8_next_15 : decode cX8_next 15 = .ok (.aload_n 0, 1) := by decide +kernel
theorem dX8_next_16 : decode cX8_next 16 = .ok (.getfield 140, 3) := by decide +kernel
theorem dX8_next_19 : decode cX8_next 19 = .ok (.iaload, 1) := by decide +kernel
theorem dX8_next_20 : decode cX8_next 20 = .ok (.bipush 32, 2) := by decide +kernel
theorem dX8_next_22 : decode cX8_next 22 = .ok (.if_icmp .eq 17, 3) := by decide +kernel
theorem dX8_next_25 : decode cX8_next 25 = .ok (.aload_n 0, 1) := by decide +kernel
theorem dX8_next_26 : decode cX8_next 26 = .ok (.getfield 26, 3) := by decide +kernel
theorem dX8_next_29 : decode cX8_next 29 = .ok (.aload_n 0, 1) := by decide +kernel
theorem dX8_next_30 : decode cX8_next 30 = .ok (.getfield 140, 3) := by decide +kernel
theorem dX8_next_33 : decode cX8_next 33 = .ok (.iaload, 1) := by decide +kernel
theorem dX8_next_34 : decode cX8_next 34 = .ok (.bipush 10, 2) := by decide +kernel
theorem dX8_next_36 : decode cX8_next 36 = .ok (.if_icmp .ne 16, 3) := by decide +kernel
theorem dX8_next_39 : decode cX8_next 39 = .ok (.aload_n 0, 1) := by decide +kernel
theorem dX8_next_40 : decode cX8_next 40 = .ok (.dup, 1) := by decide +kernel
theorem dX8_next_41 : decode cX8_next 41 = .ok (.getfield 140, 3) := by decide +kernel
theorem dX8_next_44 : decode cX8_next 44 = .ok (.iconst 1, 1) := by decide +kernel
theorem dX8_next_45 : decode cX8_next 45 = .ok (.iadd, 1) := by decide +kernel
theorem dX8_next_46 : decode cX8_next 46 = .ok (.putfield 140, 3) := by decide +kernel
theorem dX8_next_49 : decode cX8_next 49 = .ok (.goto (-49), 3) := by decide +kernel
theorem dX8_next_52 : decode cX8_next 52 = .ok (.aload_n 0, 1) := by decide +kernel
theorem dX8_next_53 : decode cX8_next 53 = .ok (.aload_n 0, 1) := by decide +kernel
theorem dX8_next_54 : decode cX8_next 54 = .ok (.getfield 140, 3) := by decide +kernel
theorem dX8_next_57 : decode cX8_next 57 = .ok (.putfield 143, 3) := by decide +kernel
theorem dX8_next_60 : decode cX8_next 60 = .ok (.aload_n 0, 1) := by decide +kernel
theorem dX8_next_61 : decode cX8_next 61 = .ok (.iconst 0, 1) := by decide +kernel
theorem dX8_next_62 : decode cX8_next 62 = .ok (.putfield 146, 3) := by decide +kernel
theorem dX8_next_65 : decode cX8_next 65 = .ok (.aload_n 0, 1) := by decide +kernel
theorem dX8_next_66 : decode cX8_next 66 = .ok (.iconst 0, 1) := by decide +kernel
theorem dX8_next_67 : decode cX8_next 67 = .ok (.putfield 149, 3) := by decide +kernel
theorem dX8_next_70 : decode cX8_next 70 = .ok (.aload_n 0, 1) := by decide +kernel
theorem dX8_next_71 : decode cX8_next 71 = .ok (.getfield 140, 3) := by decide +kernel
theorem dX8_next_74 : decode cX8_next 74 = .ok (.aload_n 0, 1) := by decide +kernel
theorem dX8_next_75 : decode cX8_next 75 = .ok (.getfield 80, 3) := by decide +kernel
theorem dX8_next_78 : decode cX8_next 78 = .ok (.if_icmp .ne 4, 3) := by decide +kernel
theorem dX8_next_81 : decode cX8_next 81 = .ok (.return_, 1) := by decide +kernel
theorem dX8_next_82 : decode cX8_next 82 = .ok (.aload_n 0, 1) := by decide +kernel
theorem dX8_next_83 : decode cX8_next 83 = .ok (.getfield 26, 3) := by decide +kernel
theorem dX8_next_86 : decode cX8_next 86 = .ok (.aload_n 0, 1) := by decide +kernel
theorem dX8_next_87 : decode cX8_next 87 = .ok (.getfield 140, 3) := by decide +kernel
theorem dX8_next_90 : decode cX8_next 90 = .ok (.iaload, 1) := by decide +kernel
theorem dX8_next_91 : decode cX8_next 91 = .ok (.istore_n 1, 1) := by decide +kernel
theorem dX8_next_92 : decode cX8_next 92 = .ok (.iload_n 1, 1) := by decide +kernel
theorem dX8_next_93 : decode cX8_next 93 = .ok (.bipush 97, 2) := by decide +kernel
theorem dX8_next_95 : decode cX8_next 95 = .ok (.bipush 122, 2) := by decide +kernel
theorem dX8_next_97 : decode cX8_next 97 = .ok (.invokestatic 90, 3) := by decide +kernel
theorem dX8_next_100 : decode cX8_next 100 = .ok (.ifCond .eq 117, 3) := by decide +kernel
theorem dX8_next_103 : decode cX8_next 103 = .ok (.aload_n 0, 1) := by decide +kernel
theorem dX8_next_104 : decode cX8_next 104 = .ok (.getfield 140, 3) := by decide +kernel
theorem dX8_next_107 : decode cX8_next 107 = .ok (.aload_n 0, 1) := by decide +kernel
theorem dX8_next_108 : decode cX8_next 108 = .ok (.getfield 80, 3) := by decide +kernel
theorem dX8_next_111 : decode cX8_next 111 = .ok (.if_icmp .ge 35, 3) := by decide +kernel
theorem dX8_next_114 : decode cX8_next 114 = .ok (.aload_n 0, 1) := by decide +kernel
theorem dX8_next_115 : decode cX8_next 115 = .ok (.getfield 26, 3) := by decide +kernel
theorem dX8_next_118 : decode cX8_next 118 = .ok (.aload_n 0, 1) := by decide +kernel
theorem dX8_next_119 : decode cX8_next 119 = .ok (.getfield 140, 3) := by decide +kernel
theorem dX8_next_122 : decode cX8_next 122 = .ok (.iaload, 1) := by decide +kernel
theorem dX8_next_123 : decode cX8_next 123 = .ok (.bipush 97, 2) := by decide +kernel
theorem dX8_next_125 : decode cX8_next 125 = .ok (.bipush 122, 2) := by decide +kernel
theorem dX8_next_127 : decode cX8_next 127 = .ok (.invokestatic 90, 3) := by decide +kernel
theorem dX8_next_130 : decode cX8_next 130 = .ok (.ifCond .eq 16, 3) := by decide +kernel
theorem dX8_next_133 : decode cX8_next 133 = .ok (.aload_n 0, 1) := by decide +kernel
theorem dX8_next_134 : decode cX8_next 134 = .ok (.dup, 1) := by decide +kernel
theorem dX8_next_135 : decode cX8_next 135 = .ok (.getfield 140, 3) := by decide +kernel
theorem dX8_next_138 : decode cX8_next 138 = .ok (.iconst 1, 1) := by decide +kernel
theorem dX8_next_139 : decode cX8_next 139 = .ok (.iadd, 1) := by decide +kernel
theorem dX8_next_140 : decode cX8_next 140 = .ok (.putfield 140, 3) := by decide +kernel
theorem dX8_next_143 : decode cX8_next 143 = .ok (.goto (-40), 3) := by decide +kernel
theorem dX8_next_146 : decode cX8_next 146 = .ok (.aload_n 0, 1) := by decide +kernel
theorem dX8_next_147 : decode cX8_next 147 = .ok (.aload_n 0, 1) := by decide +kernel
theorem dX8_next_148 : decode cX8_next 148 = .ok (.getfield 143, 3) := by decide +kernel
theorem dX8_next_151 : decode cX8_next 151 = .ok (.aload_n 0, 1) := by decide +kernel
theorem dX8_next_152 : decode cX8_next 152 = .ok (.getfield 140, 3) := by decide +kernel
theorem dX8_next_155 : decode cX8_next 155 = .ok (.invokevirtual 152, 3) := by decide +kernel
theorem dX8_next_158 : decode cX8_next 158 = .ok (.istore_n 2, 1) := by decide +kernel
theorem dX8_next_159 : decode cX8_next 159 = .ok (.aload_n 0, 1) := by decide +kernel
theorem dX8_next_160 : decode cX8_next 160 = .ok (.iload_n 2, 1) := by decide +kernel
theorem dX8_next_161 : decode cX8_next 161 = .ok (.iconst 3, 1) := by decide +kernel
theorem dX8_next_162 : decode cX8_next 162 = .ok (.if_icmp .ge 7, 3) := by decide +kernel
theorem dX8_next_165 : decode cX8_next 165 = .ok (.iconst 3, 1) := by decide +kernel
theorem dX8_next_166 : decode cX8_next 166 = .ok (.goto 29, 3) := by decide +kernel
theorem dX8_next_169 : decode cX8_next 169 = .ok (.iload_n 2, 1) := by decide +kernel
theorem dX8_next_170 : decode cX8_next 170 = .ok (.bipush 9, 2) := by decide +kernel
theorem dX8_next_172 : decode cX8_next 172 = .ok (.if_icmp .ge 7, 3) := by decide +kernel
theorem dX8_next_175 : decode cX8_next 175 = .ok (.iconst 2, 1) := by decide +kernel
theorem dX8_next_176 : decode cX8_next 176 = .ok (.goto 19, 3) := by decide +kernel
theorem dX8_next_179 : decode cX8_next 179 = .ok (.iload_n 2, 1) := by decide +kernel
theorem dX8_next_180 : decode cX8_next 180 = .ok (.bipush 12, 2) := by decide +kernel
theorem dX8_next_182 : decode cX8_next 182 = .ok (.if_icmp .ne 7, 3) := by decide +kernel
theorem dX8_next_185 : decode cX8_next 185 = .ok (.iconst (-1), 1) := by decide +kernel
theorem dX8_next_186 : decode cX8_next 186 = .ok (.goto 9, 3) := by decide +kernel
theorem dX8_next_189 : decode cX8_next 189 = .ok (.iconst 4, 1) := by decide +kernel
theorem dX8_next_190 : decode cX8_next 190 = .ok (.iload_n 2, 1) := by decide +kernel
theorem dX8_next_191 : decode cX8_next 191 = .ok (.iadd, 1) := by decide +kernel
theorem dX8_next_192 : decode cX8_next 192 = .ok (.bipush 9, 2) := by decide +kernel
theorem dX8_next_194 : decode cX8_next 194 = .ok (.isub, 1) := by decide +kernel
theorem dX8_next_195 : decode cX8_next 195 = .ok (.putfield 146, 3) := by decide +kernel
theorem dX8_next_198 : decode cX8_next 198 = .ok (.aload_n 0, 1) := by decide +kernel
theorem dX8_next_199 : decode cX8_next 199 = .ok (.iload_n 2, 1) := by decide +kernel
theorem dX8_next_200 : decode cX8_next 200 = .ok (.iconst 3, 1) := by decide +kernel
theorem dX8_next_201 : decode cX8_next 201 = .ok (.if_icmp .ge 7, 3) := by decide +kernel
theorem dX8_next_204 : decode cX8_next 204 = .ok (.iload_n 2, 1) := by decide +kernel
theorem dX8_next_205 : decode cX8_next 205 = .ok (.goto 6, 3) := by decide +kernel
theorem dX8_next_208 : decode cX8_next 208 = .ok (.iload_n 2, 1) := by decide +kernel
theorem dX8_next_209 : decode cX8_next 209 = .ok (.iconst 3, 1) := by decide +kernel
theorem dX8_next_210 : decode cX8_next 210 = .ok (.isub, 1) := by decide +kernel
theorem dX8_next_211 : decode cX8_next 211 = .ok (.putfield 149, 3) := by decide +kernel
theorem dX8_next_214 : decode cX8_next 214 = .ok (.goto 189, 3) := by decide +kernel
theorem dX8_next_217 : decode cX8_next 217 = .ok (.iload_n 1, 1) := by decide +kernel
theorem dX8_next_218 : decode cX8_next 218 = .ok (.bipush 48, 2) := by decide +kernel
theorem dX8_next_220 : decode cX8_next 220 = .ok (.bipush 57, 2) := by decide +kernel
theorem dX8_next_222 : decode cX8_next 222 = .ok (.invokestatic 90, 3) := by decide +kernel
theorem dX8_next_225 : decode cX8_next 225 = .ok (.ifCond .eq 101, 3) := by decide +kernel
theorem dX8_next_228 : decode cX8_next 228 = .ok (.iconst 0, 1) := by decide +kernel
theorem dX8_next_229 : decode cX8_next 229 = .ok (.istore_n 2, 1) := by decide +kernel
theorem dX8_next_230 : decode cX8_next 230 = .ok (.aload_n 0, 1) := by decide +kernel
theorem dX8_next_231 : decode cX8_next 231 = .ok (.getfield 140, 3) := by decide +kernel
theorem dX8_next_234 : decode cX8_next 234 = .ok (.aload_n 0, 1) := by decide +kernel
theorem dX8_next_235 : decode cX8_next 235 = .ok (.getfield 80, 3) := by decide +kernel
theorem dX8_next_238 : decode cX8_next 238 = .ok (.if_icmp .ge 71, 3) := by decide +kernel
theorem dX8_next_241 : decode cX8_next 241 = .ok (.aload_n 0, 1) := by decide +kernel
theorem dX8_next_242 : decode cX8_next 242 = .ok (.getfield 26, 3) := by decide +kernel
theorem dX8_next_245 : decode cX8_next 245 = .ok (.aload_n 0, 1) := by decide +kernel
theorem dX8_next_246 : decode cX8_next 246 = .ok (.getfield 140, 3) := by decide +kernel
theorem dX8_next_249 : decode cX8_next 249 = .ok (.iaload, 1) := by decide +kernel
theorem dX8_next_250 : decode cX8_next 250 = .ok (.bipush 48, 2) := by decide +kernel
theorem dX8_next_252 : decode cX8_next 252 = .ok (.bipush 57, 2) := by decide +kernel
theorem dX8_next_254 : decode cX8_next 254 = .ok (.invokestatic 90, 3) := by decide +kernel
theorem dX8_next_257 : decode cX8_next 257 = .ok (.ifCond .eq 52, 3) := by decide +kernel
theorem dX8_next_260 : decode cX8_next 260 = .ok (.aload_n 0, 1) := by decide +kernel
theorem dX8_next_261 : decode cX8_next 261 = .ok (.iload_n 2, 1) := by decide +kernel
theorem dX8_next_262 : decode cX8_next 262 = .ok (.iconst 4, 1) := by decide +kernel
theorem dX8_next_263 : decode cX8_next 263 = .ok (.if_icmp .ge 26, 3) := by decide +kernel
theorem dX8_next_266 : decode cX8_next 266 = .ok (.bipush 10, 2) := by decide +kernel
theorem dX8_next_268 : decode cX8_next 268 = .ok (.aload_n 0, 1) := by decide +kernel
theorem dX8_next_269 : decode cX8_next 269 = .ok (.getfield 149, 3) := by decide +kernel
theorem dX8_next_272 : decode cX8_next 272 = .ok (.imul, 1) := by decide +kernel
theorem dX8_next_273 : decode cX8_next 273 = .ok (.aload_n 0, 1) := by decide +kernel
theorem dX8_next_274 : decode cX8_next 274 = .ok (.getfield 26, 3) := by decide +kernel
theorem dX8_next_277 : decode cX8_next 277 = .ok (.aload_n 0, 1) := by decide +kernel
theorem dX8_next_278 : decode cX8_next 278 = .ok (.getfield 140, 3) := by decide +kernel
theorem dX8_next_281 : decode cX8_next 281 = .ok (.iaload, 1) := by decide +kernel
theorem dX8_next_282 : decode cX8_next 282 = .ok (.iadd, 1) := by decide +kernel
theorem dX8_next_283 : decode cX8_next 283 = .ok (.bipush 48, 2) := by decide +kernel
theorem dX8_next_285 : decode cX8_next 285 = .ok (.isub, 1) := by decide +kernel
theorem dX8_next_286 : decode cX8_next 286 = .ok (.goto 4, 3) := by decide +kernel
theorem dX8_next_289 : decode cX8_next 289 = .ok (.iconst 0, 1) := by decide +kernel
theorem dX8_next_290 : decode cX8_next 290 = .ok (.putfield 149, 3) := by decide +kernel
theorem dX8_next_293 : decode cX8_next 293 = .ok (.iinc 2 1, 3) := by decide +kernel
theorem dX8_next_296 : decode cX8_next 296 = .ok (.aload_n 0, 1) := by decide +kernel
theorem dX8_next_297 : decode cX8_next 297 = .ok (.dup, 1) := by decide +kernel
theorem dX8_next_298 : decode cX8_next 298 = .ok (.getfield 140, 3) := by decide +kernel
theorem dX8_next_301 : decode cX8_next 301 = .ok (.iconst 1, 1) := by decide +kernel
theorem dX8_next_302 : decode cX8_next 302 = .ok (.iadd, 1) := by decide +kernel
theorem dX8_next_303 : decode cX8_next 303 = .ok (.putfield 140, 3) := by decide +kernel
theorem dX8_next_306 : decode cX8_next 306 = .ok (.goto (-76), 3) := by decide +kernel
theorem dX8_next_309 : decode cX8_next 309 = .ok (.aload_n 0, 1) := by decide +kernel
theorem dX8_next_310 : decode cX8_next 310 = .ok (.iload_n 2, 1) := by decide +kernel
theorem dX8_next_311 : decode cX8_next 311 = .ok (.iconst 4, 1) := by decide +kernel
theorem dX8_next_312 : decode cX8_next 312 = .ok (.if_icmp .le 7, 3) := by decide +kernel
theorem dX8_next_315 : decode cX8_next 315 = .ok (.iconst (-1), 1) := by decide +kernel
theorem dX8_next_316 : decode cX8_next 316 = .ok (.goto 4, 3) := by decide +kernel
theorem dX8_next_319 : decode cX8_next 319 = .ok (.iconst 1, 1) := by decide +kernel
theorem dX8_next_320 : decode cX8_next 320 = .ok (.putfield 146, 3) := by decide +kernel
theorem dX8_next_323 : decode cX8_next 323 = .ok (.goto 80, 3) := by decide +kernel
theorem dX8_next_326 : decode cX8_next 326 = .ok (.iload_n 1, 1) := by decide +kernel
theorem dX8_next_327 : decode cX8_next 327 = .ok (.bipush 40, 2) := by decide +kernel
theorem dX8_next_329 : decode cX8_next 329 = .ok (.if_icmp .eq 45, 3) := by decide +kernel
theorem dX8_next_332 : decode cX8_next 332 = .ok (.iload_n 1, 1) := by decide +kernel
theorem dX8_next_333 : decode cX8_next 333 = .ok (.bipush 41, 2) := by decide +kernel
theorem dX8_next_335 : decode cX8_next 335 = .ok (.if_icmp .eq 39, 3) := by decide +kernel
theorem dX8_next_338 : decode cX8_next 338 = .ok (.iload_n 1, 1) := by decide +kernel
theorem dX8_next_339 : decode cX8_next 339 = .ok (.bipush 59, 2) := by decide +kernel
theorem dX8_next_341 : decode cX8_next 341 = .ok (.if_icmp .eq 33, 3) := by decide +kernel
theorem dX8_next_344 : decode cX8_next 344 = .ok (.iload_n 1, 1) := by decide +kernel
theorem dX8_next_345 : decode cX8_next 345 = .ok (.bipush 43, 2) := by decide +kernel
theorem dX8_next_347 : decode cX8_next 347 = .ok (.if_icmp .eq 27, 3) := by decide +kernel
theorem dX8_next_350 : decode cX8_next 350 = .ok (.iload_n 1, 1) := by decide +kernel
theorem dX8_next_351 : decode cX8_next 351 = .ok (.bipush 45, 2) := by decide +kernel
theorem dX8_next_353 : decode cX8_next 353 = .ok (.if_icmp .eq 21, 3) := by decide +kernel
theorem dX8_next_356 : decode cX8_next 356 = .ok (.iload_n 1, 1) := by decide +kernel
theorem dX8_next_357 : decode cX8_next 357 = .ok (.bipush 42, 2) := by decide +kernel
theorem dX8_next_359 : decode cX8_next 359 = .ok (.if_icmp .eq 15, 3) := by decide +kernel
theorem dX8_next_362 : decode cX8_next 362 = .ok (.iload_n 1, 1) := by decide +kernel
theorem dX8_next_363 : decode cX8_next 363 = .ok (.bipush 60, 2) := by decide +kernel
theorem dX8_next_365 : decode cX8_next 365 = .ok (.if_icmp .eq 9, 3) := by decide +kernel
theorem dX8_next_368 : decode cX8_next 368 = .ok (.iload_n 1, 1) := by decide +kernel
theorem dX8_next_369 : decode cX8_next 369 = .ok (.bipush 61, 2) := by decide +kernel
theorem dX8_next_371 : decode cX8_next 371 = .ok (.if_icmp .ne 7, 3) := by decide +kernel
theorem dX8_next_374 : decode cX8_next 374 = .ok (.iconst 1, 1) := by decide +kernel
theorem dX8_next_375 : decode cX8_next 375 = .ok (.goto 4, 3) := by decide +kernel
theorem dX8_next_378 : decode cX8_next 378 = .ok (.iconst 0, 1) := by decide +kernel
theorem dX8_next_379 : decode cX8_next 379 = .ok (.istore_n 2, 1) := by decide +kernel
theorem dX8_next_380 : decode cX8_next 380 = .ok (.aload_n 0, 1) := by decide +kernel
theorem dX8_next_381 : decode cX8_next 381 = .ok (.iload_n 2, 1) := by decide +kernel
theorem dX8_next_382 : decode cX8_next 382 = .ok (.ifCond .eq 7, 3) := by decide +kernel
theorem dX8_next_385 : decode cX8_next 385 = .ok (.iload_n 1, 1) := by decide +kernel
theorem dX8_next_386 : decode cX8_next 386 = .ok (.goto 4, 3) := by decide +kernel
theorem dX8_next_389 : decode cX8_next 389 = .ok (.iconst (-1), 1) := by decide +kernel
theorem dX8_next_390 : decode cX8_next 390 = .ok (.putfield 146, 3) := by decide +kernel
theorem dX8_next_393 : decode cX8_next 393 = .ok (.aload_n 0, 1) := by decide +kernel
theorem dX8_next_394 : decode cX8_next 394 = .ok (.dup, 1) := by decide +kernel
theorem dX8_next_395 : decode cX8_next 395 = .ok (.getfield 140, 3) := by decide +kernel
theorem dX8_next_398 : decode cX8_next 398 = .ok (.iconst 1, 1) := by decide +kernel
theorem dX8_next_399 : decode cX8_next 399 = .ok (.iadd, 1) := by decide +kernel
theorem dX8_next_400 : decode cX8_next 400 = .ok (.putfield 140, 3) := by decide +kernel
theorem dX8_next_403 : decode cX8_next 403 = .ok (.return_, 1) := by decide +kernel
theorem dX8_rank_0 : decode cX8_rank 0 = .ok (.iload_n 0, 1) := by decide +kernel
theorem dX8_rank_1 : decode cX8_rank 1 = .ok (.ifCond .ne 7, 3) := by decide +kernel
theorem dX8_rank_4 : decode cX8_rank 4 = .ok (.iconst 0, 1) := by decide +kernel
theorem dX8_rank_5 : decode cX8_rank 5 = .ok (.goto 66, 3) := by decide +kernel
theorem dX8_rank_8 : decode cX8_rank 8 = .ok (.iload_n 0, 1) := by decide +kernel
theorem dX8_rank_9 : decode cX8_rank 9 = .ok (.bipush 11, 2) := by decide +kernel
theorem dX8_rank_11 : decode cX8_rank 11 = .ok (.if_icmp .ne 7, 3) := by decide +kernel
theorem dX8_rank_14 : decode cX8_rank 14 = .ok (.iconst 1, 1) := by decide +kernel
theorem dX8_rank_15 : decode cX8_rank 15 = .ok (.goto 56, 3) := by decide +kernel
theorem dX8_rank_18 : decode cX8_rank 18 = .ok (.iload_n 0, 1) := by decide +kernel
theorem dX8_rank_19 : decode cX8_rank 19 = .ok (.bipush 12, 2) := by decide +kernel
theorem dX8_rank_21 : decode cX8_rank 21 = .ok (.if_icmp .ne 7, 3) := by decide +kernel
theorem dX8_rank_24 : decode cX8_rank 24 = .ok (.iconst 2, 1) := by decide +kernel
theorem dX8_rank_25 : decode cX8_rank 25 = .ok (.goto 46, 3) := by decide +kernel
theorem dX8_rank_28 : decode cX8_rank 28 = .ok (.iload_n 0, 1) := by decide +kernel
theorem dX8_rank_29 : decode cX8_rank 29 = .ok (.bipush 13, 2) := by decide +kernel
theorem dX8_rank_31 : decode cX8_rank 31 = .ok (.if_icmp .ne 7, 3) := by decide +kernel
theorem dX8_rank_34 : decode cX8_rank 34 = .ok (.iconst 3, 1) := by decide +kernel
theorem dX8_rank_35 : decode cX8_rank 35 = .ok (.goto 36, 3) := by decide +kernel
theorem dX8_rank_38 : decode cX8_rank 38 = .ok (.iload_n 0, 1) := by decide +kernel
theorem dX8_rank_39 : decode cX8_rank 39 = .ok (.bipush 15, 2) := by decide +kernel
theorem dX8_rank_41 : decode cX8_rank 41 = .ok (.if_icmp .gt 7, 3) := by decide +kernel
theorem dX8_rank_44 : decode cX8_rank 44 = .ok (.iconst 4, 1) := by decide +kernel
theorem dX8_rank_45 : decode cX8_rank 45 = .ok (.goto 26, 3) := by decide +kernel
theorem dX8_rank_48 : decode cX8_rank 48 = .ok (.iload_n 0, 1) := by decide +kernel
theorem dX8_rank_49 : decode cX8_rank 49 = .ok (.bipush 17, 2) := by decide +kernel
theorem dX8_rank_51 : decode cX8_rank 51 = .ok (.if_icmp .gt 7, 3) := by decide +kernel
theorem dX8_rank_54 : decode cX8_rank 54 = .ok (.iconst 5, 1) := by decide +kernel
theorem dX8_rank_55 : decode cX8_rank 55 = .ok (.goto 16, 3) := by decide +kernel
theorem dX8_rank_58 : decode cX8_rank 58 = .ok (.iload_n 0, 1) := by decide +kernel
theorem dX8_rank_59 : decode cX8_rank 59 = .ok (.bipush 18, 2) := by decide +kernel
theorem dX8_rank_61 : decode cX8_rank 61 = .ok (.if_icmp .ne 8, 3) := by decide +kernel
theorem dX8_rank_64 : decode cX8_rank 64 = .ok (.bipush 6, 2) := by decide +kernel
theorem dX8_rank_66 : decode cX8_rank 66 = .ok (.goto 5, 3) := by decide +kernel
theorem dX8_rank_69 : decode cX8_rank 69 = .ok (.bipush 7, 2) := by decide +kernel
theorem dX8_rank_71 : decode cX8_rank 71 = .ok (.ireturn, 1) := by decide +kernel
theorem dX8_puts_0 : decode cX8_puts 0 = .ok (.aload_n 0, 1) := by decide +kernel
theorem dX8_puts_1 : decode cX8_puts 1 = .ok (.getfield 29, 3) := by decide +kernel
theorem dX8_puts_4 : decode cX8_puts 4 = .ok (.sipush 200, 3) := by decide +kernel
theorem dX8_puts_7 : decode cX8_puts 7 = .ok (.aload_n 0, 1) := by decide +kernel
theorem dX8_puts_8 : decode cX8_puts 8 = .ok (.getfield 113, 3) := by decide +kernel
theorem dX8_puts_11 : decode cX8_puts 11 = .ok (.imul, 1) := by decide +kernel
theorem dX8_puts_12 : decode cX8_puts 12 = .ok (.aload_n 0, 1) := by decide +kernel
theorem dX8_puts_13 : decode cX8_puts 13 = .ok (.getfield 156, 3) := by decide +kernel
theorem dX8_puts_16 : decode cX8_puts 16 = .ok (.iadd, 1) := by decide +kernel
theorem dX8_puts_17 : decode cX8_puts 17 = .ok (.iload_n 1, 1) := by decide +kernel
theorem dX8_puts_18 : decode cX8_puts 18 = .ok (.iastore, 1) := by decide +kernel
theorem dX8_puts_19 : decode cX8_puts 19 = .ok (.aload_n 0, 1) := by decide +kernel
theorem dX8_puts_20 : decode cX8_puts 20 = .ok (.dup, 1) := by decide +kernel
theorem dX8_puts_21 : decode cX8_puts 21 = .ok (.getfield 156, 3) := by decide +kernel
theorem dX8_puts_24 : decode cX8_puts 24 = .ok (.iconst 1, 1) := by decide +kernel
theorem dX8_puts_25 : decode cX8_puts 25 = .ok (.iadd, 1) := by decide +kernel
theorem dX8_puts_26 : decode cX8_puts 26 = .ok (.putfield 156, 3) := by decide +kernel
theorem dX8_puts_29 : decode cX8_puts 29 = .ok (.return_, 1) := by decide +kernel
theorem dX8_unwinds_0 : decode cX8_unwinds 0 = .ok (.aload_n 0, 1) := by decide +kernel
theorem dX8_unwinds_1 : decode cX8_unwinds 1 = .ok (.getfield 159, 3) := by decide +kernel
theorem dX8_unwinds_4 : decode cX8_unwinds 4 = .ok (.ifCond .le 75, 3) := by decide +kernel
theorem dX8_unwinds_7 : decode cX8_unwinds 7 = .ok (.aload_n 0, 1) := by decide +kernel
theorem dX8_unwinds_8 : decode cX8_unwinds 8 = .ok (.getfield 59, 3) := by decide +kernel
theorem dX8_unwinds_11 : decode cX8_unwinds 11 = .ok (.aload_n 0, 1) := by decide +kernel
theorem dX8_unwinds_12 : decode cX8_unwinds 12 = .ok (.getfield 159, 3) := by decide +kernel
theorem dX8_unwinds_15 : decode cX8_unwinds 15 = .ok (.iconst 1, 1) := by decide +kernel
theorem dX8_unwinds_16 : decode cX8_unwinds 16 = .ok (.isub, 1) := by decide +kernel
theorem dX8_unwinds_17 : decode cX8_unwinds 17 = .ok (.iaload, 1) := by decide +kernel
theorem dX8_unwinds_18 : decode cX8_unwinds 18 = .ok (.invokestatic 162, 3) := by decide +kernel
theorem dX8_unwinds_21 : decode cX8_unwinds 21 = .ok (.iload_n 1, 1) := by decide +kernel
theorem dX8_unwinds_22 : decode cX8_unwinds 22 = .ok (.if_icmp .lt 57, 3) := by decide +kernel
theorem dX8_unwinds_25 : decode cX8_unwinds 25 = .ok (.aload_n 0, 1) := by decide +kernel
theorem dX8_unwinds_26 : decode cX8_unwinds 26 = .ok (.dup, 1) := by decide +kernel
theorem dX8_unwinds_27 : decode cX8_unwinds 27 = .ok (.getfield 159, 3) := by decide +kernel
theorem dX8_unwinds_30 : decode cX8_unwinds 30 = .ok (.iconst 1, 1) := by decide +kernel
theorem dX8_unwinds_31 : decode cX8_unwinds 31 = .ok (.isub, 1) := by decide +kernel
theorem dX8_unwinds_32 : decode cX8_unwinds 32 = .ok (.putfield 159, 3) := by decide +kernel
theorem dX8_unwinds_35 : decode cX8_unwinds 35 = .ok (.aload_n 0, 1) := by decide +kernel
theorem dX8_unwinds_36 : decode cX8_unwinds 36 = .ok (.getfield 59, 3) := by decide +kernel
theorem dX8_unwinds_39 : decode cX8_unwinds 39 = .ok (.aload_n 0, 1) := by decide +kernel
theorem dX8_unwinds_40 : decode cX8_unwinds 40 = .ok (.getfield 159, 3) := by decide +kernel
theorem dX8_unwinds_43 : decode cX8_unwinds 43 = .ok (.iaload, 1) := by decide +kernel
theorem dX8_unwinds_44 : decode cX8_unwinds 44 = .ok (.istore_n 2, 1) := by decide +kernel
theorem dX8_unwinds_45 : decode cX8_unwinds 45 = .ok (.aload_n 0, 1) := by decide +kernel
theorem dX8_unwinds_46 : decode cX8_unwinds 46 = .ok (.dup, 1) := by decide +kernel
theorem dX8_unwinds_47 : decode cX8_unwinds 47 = .ok (.getfield 165, 3) := by decide +kernel
theorem dX8_unwinds_50 : decode cX8_unwinds 50 = .ok (.iload_n 2, 1) := by decide +kernel
theorem dX8_unwinds_51 : decode cX8_unwinds 51 = .ok (.bipush 13, 2) := by decide +kernel
theorem dX8_unwinds_53 : decode cX8_unwinds 53 = .ok (.if_icmp .eq 9, 3) := by decide +kernel
theorem dX8_unwinds_56 : decode cX8_unwinds 56 = .ok (.iload_n 2, 1) := by decide +kernel
theorem dX8_unwinds_57 : decode cX8_unwinds 57 = .ok (.bipush 19, 2) := by decide +kernel
theorem dX8_unwinds_59 : decode cX8_unwinds 59 = .ok (.if_icmp .ne 7, 3) := by decide +kernel
theorem dX8_unwinds_62 : decode cX8_unwinds 62 = .ok (.iconst 1, 1) := by decide +kernel
theorem dX8_unwinds_63 : decode cX8_unwinds 63 = .ok (.goto 4, 3) := by decide +kernel
theorem dX8_unwinds_66 : decode cX8_unwinds 66 = .ok (.iconst 0, 1) := by decide +kernel
theorem dX8_unwinds_67 : decode cX8_unwinds 67 = .ok (.isub, 1) := by decide +kernel
theorem dX8_unwinds_68 : decode cX8_unwinds 68 = .ok (.putfield 165, 3) := by decide +kernel
theorem dX8_unwinds_71 : decode cX8_unwinds 71 = .ok (.aload_n 0, 1) := by decide +kernel
theorem dX8_unwinds_72 : decode cX8_unwinds 72 = .ok (.iload_n 2, 1) := by decide +kernel
theorem dX8_unwinds_73 : decode cX8_unwinds 73 = .ok (.invokevirtual 168, 3) := by decide +kernel
theorem dX8_unwinds_76 : decode cX8_unwinds 76 = .ok (.goto (-76), 3) := by decide +kernel
theorem dX8_unwinds_79 : decode cX8_unwinds 79 = .ok (.return_, 1) := by decide +kernel
theorem dX8_holds_0 : decode cX8_holds 0 = .ok (.aload_n 0, 1) := by decide +kernel
theorem dX8_holds_1 : decode cX8_holds 1 = .ok (.getfield 59, 3) := by decide +kernel
theorem dX8_holds_4 : decode cX8_holds 4 = .ok (.aload_n 0, 1) := by decide +kernel
theorem dX8_holds_5 : decode cX8_holds 5 = .ok (.getfield 159, 3) := by decide +kernel
theorem dX8_holds_8 : decode cX8_holds 8 = .ok (.iload_n 1, 1) := by decide +kernel
theorem dX8_holds_9 : decode cX8_holds 9 = .ok (.iastore, 1) := by decide +kernel
theorem dX8_holds_10 : decode cX8_holds 10 = .ok (.aload_n 0, 1) := by decide +kernel
theorem dX8_holds_11 : decode cX8_holds 11 = .ok (.dup, 1) := by decide +kernel
theorem dX8_holds_12 : decode cX8_holds 12 = .ok (.getfield 159, 3) := by decide +kernel
theorem dX8_holds_15 : decode cX8_holds 15 = .ok (.iconst 1, 1) := by decide +kernel
theorem dX8_holds_16 : decode cX8_holds 16 = .ok (.iadd, 1) := by decide +kernel
theorem dX8_holds_17 : decode cX8_holds 17 = .ok (.putfield 159, 3) := by decide +kernel
theorem dX8_holds_20 : decode cX8_holds 20 = .ok (.return_, 1) := by decide +kernel
theorem dX8_opensOne_0 : decode cX8_opensOne 0 = .ok (.aload_n 0, 1) := by decide +kernel
theorem dX8_opensOne_1 : decode cX8_opensOne 1 = .ok (.getfield 165, 3) := by decide +kernel
theorem dX8_opensOne_4 : decode cX8_opensOne 4 = .ok (.iconst 5, 1) := by decide +kernel
theorem dX8_opensOne_5 : decode cX8_opensOne 5 = .ok (.if_icmp .ne 5, 3) := by decide +kernel
theorem dX8_opensOne_8 : decode cX8_opensOne 8 = .ok (.iconst 0, 1) := by decide +kernel
theorem dX8_opensOne_9 : decode cX8_opensOne 9 = .ok (.ireturn, 1) := by decide +kernel
theorem dX8_opensOne_10 : decode cX8_opensOne 10 = .ok (.aload_n 0, 1) := by decide +kernel
theorem dX8_opensOne_11 : decode cX8_opensOne 11 = .ok (.dup, 1) := by decide +kernel
theorem dX8_opensOne_12 : decode cX8_opensOne 12 = .ok (.getfield 165, 3) := by decide +kernel
theorem dX8_opensOne_15 : decode cX8_opensOne 15 = .ok (.iconst 1, 1) := by decide +kernel
theorem dX8_opensOne_16 : decode cX8_opensOne 16 = .ok (.iadd, 1) := by decide +kernel
theorem dX8_opensOne_17 : decode cX8_opensOne 17 = .ok (.putfield 165, 3) := by decide +kernel
theorem dX8_opensOne_20 : decode cX8_opensOne 20 = .ok (.aload_n 0, 1) := by decide +kernel
theorem dX8_opensOne_21 : decode cX8_opensOne 21 = .ok (.iload_n 1, 1) := by decide +kernel
theorem dX8_opensOne_22 : decode cX8_opensOne 22 = .ok (.invokevirtual 172, 3) := by decide +kernel
theorem dX8_opensOne_25 : decode cX8_opensOne 25 = .ok (.iconst 1, 1) := by decide +kernel
theorem dX8_opensOne_26 : decode cX8_opensOne 26 = .ok (.ireturn, 1) := by decide +kernel
theorem dX8_between_0 : decode cX8_between 0 = .ok (.aload_n 0, 1) := by decide +kernel
theorem dX8_between_1 : decode cX8_between 1 = .ok (.iload_n 1, 1) := by decide +kernel
theorem dX8_between_2 : decode cX8_between 2 = .ok (.invokestatic 162, 3) := by decide +kernel
theorem dX8_between_5 : decode cX8_between 5 = .ok (.iconst 4, 1) := by decide +kernel
theorem dX8_between_6 : decode cX8_between 6 = .ok (.if_icmp .ne 7, 3) := by decide +kernel
theorem dX8_between_9 : decode cX8_between 9 = .ok (.iconst 5, 1) := by decide +kernel
theorem dX8_between_10 : decode cX8_between 10 = .ok (.goto 7, 3) := by decide +kernel
theorem dX8_between_13 : decode cX8_between 13 = .ok (.iload_n 1, 1) := by decide +kernel
theorem dX8_between_14 : decode cX8_between 14 = .ok (.invokestatic 162, 3) := by decide +kernel
theorem dX8_between_17 : decode cX8_between 17 = .ok (.invokevirtual 175, 3) := by decide +kernel
theorem dX8_between_20 : decode cX8_between 20 = .ok (.iload_n 1, 1) := by decide +kernel
theorem dX8_between_21 : decode cX8_between 21 = .ok (.invokestatic 162, 3) := by decide +kernel
theorem dX8_between_24 : decode cX8_between 24 = .ok (.iconst 4, 1) := by decide +kernel
theorem dX8_between_25 : decode cX8_between 25 = .ok (.if_icmp .ne 30, 3) := by decide +kernel
theorem dX8_between_28 : decode cX8_between 28 = .ok (.aload_n 0, 1) := by decide +kernel
theorem dX8_between_29 : decode cX8_between 29 = .ok (.getfield 159, 3) := by decide +kernel
theorem dX8_between_32 : decode cX8_between 32 = .ok (.ifCond .le 23, 3) := by decide +kernel
theorem dX8_between_35 : decode cX8_between 35 = .ok (.aload_n 0, 1) := by decide +kernel
theorem dX8_between_36 : decode cX8_between 36 = .ok (.getfield 59, 3) := by decide +kernel
theorem dX8_between_39 : decode cX8_between 39 = .ok (.aload_n 0, 1) := by decide +kernel
theorem dX8_between_40 : decode cX8_between 40 = .ok (.getfield 159, 3) := by decide +kernel
theorem dX8_between_43 : decode cX8_between 43 = .ok (.iconst 1, 1) := by decide +kernel
theorem dX8_between_44 : decode cX8_between 44 = .ok (.isub, 1) := by decide +kernel
theorem dX8_between_45 : decode cX8_between 45 = .ok (.iaload, 1) := by decide +kernel
theorem dX8_between_46 : decode cX8_between 46 = .ok (.invokestatic 162, 3) := by decide +kernel
theorem dX8_between_49 : decode cX8_between 49 = .ok (.iconst 4, 1) := by decide +kernel
theorem dX8_between_50 : decode cX8_between 50 = .ok (.if_icmp .ne 5, 3) := by decide +kernel
theorem dX8_between_53 : decode cX8_between 53 = .ok (.iconst 0, 1) := by decide +kernel
theorem dX8_between_54 : decode cX8_between 54 = .ok (.ireturn, 1) := by decide +kernel
theorem dX8_between_55 : decode cX8_between 55 = .ok (.aload_n 0, 1) := by decide +kernel
theorem dX8_between_56 : decode cX8_between 56 = .ok (.iload_n 1, 1) := by decide +kernel
theorem dX8_between_57 : decode cX8_between 57 = .ok (.invokevirtual 172, 3) := by decide +kernel
theorem dX8_between_60 : decode cX8_between 60 = .ok (.iconst 1, 1) := by decide +kernel
theorem dX8_between_61 : decode cX8_between 61 = .ok (.ireturn, 1) := by decide +kernel
theorem dX8_signOf_0 : decode cX8_signOf 0 = .ok (.aload_n 0, 1) := by decide +kernel
theorem dX8_signOf_1 : decode cX8_signOf 1 = .ok (.getfield 146, 3) := by decide +kernel
theorem dX8_signOf_4 : decode cX8_signOf 4 = .ok (.iconst 4, 1) := by decide +kernel
theorem dX8_signOf_5 : decode cX8_signOf 5 = .ok (.if_icmp .ne 8, 3) := by decide +kernel
theorem dX8_signOf_8 : decode cX8_signOf 8 = .ok (.bipush 11, 2) := by decide +kernel
theorem dX8_signOf_10 : decode cX8_signOf 10 = .ok (.goto 87, 3) := by decide +kernel
theorem dX8_signOf_13 : decode cX8_signOf 13 = .ok (.aload_n 0, 1) := by decide +kernel
theorem dX8_signOf_14 : decode cX8_signOf 14 = .ok (.getfield 146, 3) := by decide +kernel
theorem dX8_signOf_17 : decode cX8_signOf 17 = .ok (.iconst 5, 1) := by decide +kernel
theorem dX8_signOf_18 : decode cX8_signOf 18 = .ok (.if_icmp .ne 8, 3) := by decide +kernel
theorem dX8_signOf_21 : decode cX8_signOf 21 = .ok (.bipush 12, 2) := by decide +kernel
theorem dX8_signOf_23 : decode cX8_signOf 23 = .ok (.goto 74, 3) := by decide +kernel
theorem dX8_signOf_26 : decode cX8_signOf 26 = .ok (.aload_n 0, 1) := by decide +kernel
theorem dX8_signOf_27 : decode cX8_signOf 27 = .ok (.getfield 146, 3) := by decide +kernel
theorem dX8_signOf_30 : decode cX8_signOf 30 = .ok (.bipush 60, 2) := by decide +kernel
theorem dX8_signOf_32 : decode cX8_signOf 32 = .ok (.if_icmp .ne 8, 3) := by decide +kernel
theorem dX8_signOf_35 : decode cX8_signOf 35 = .ok (.bipush 14, 2) := by decide +kernel
theorem dX8_signOf_37 : decode cX8_signOf 37 = .ok (.goto 60, 3) := by decide +kernel
theorem dX8_signOf_40 : decode cX8_signOf 40 = .ok (.aload_n 0, 1) := by decide +kernel
theorem dX8_signOf_41 : decode cX8_signOf 41 = .ok (.getfield 146, 3) := by decide +kernel
theorem dX8_signOf_44 : decode cX8_signOf 44 = .ok (.bipush 61, 2) := by decide +kernel
theorem dX8_signOf_46 : decode cX8_signOf 46 = .ok (.if_icmp .ne 8, 3) := by decide +kernel
theorem dX8_signOf_49 : decode cX8_signOf 49 = .ok (.bipush 15, 2) := by decide +kernel
theorem dX8_signOf_51 : decode cX8_signOf 51 = .ok (.goto 46, 3) := by decide +kernel
theorem dX8_signOf_54 : decode cX8_signOf 54 = .ok (.aload_n 0, 1) := by decide +kernel
theorem dX8_signOf_55 : decode cX8_signOf 55 = .ok (.getfield 146, 3) := by decide +kernel
theorem dX8_signOf_58 : decode cX8_signOf 58 = .ok (.bipush 43, 2) := by decide +kernel
theorem dX8_signOf_60 : decode cX8_signOf 60 = .ok (.if_icmp .ne 8, 3) := by decide +kernel
theorem dX8_signOf_63 : decode cX8_signOf 63 = .ok (.bipush 16, 2) := by decide +kernel
theorem dX8_signOf_65 : decode cX8_signOf 65 = .ok (.goto 32, 3) := by decide +kernel
theorem dX8_signOf_68 : decode cX8_signOf 68 = .ok (.aload_n 0, 1) := by decide +kernel
theorem dX8_signOf_69 : decode cX8_signOf 69 = .ok (.getfield 146, 3) := by decide +kernel
theorem dX8_signOf_72 : decode cX8_signOf 72 = .ok (.bipush 45, 2) := by decide +kernel
theorem dX8_signOf_74 : decode cX8_signOf 74 = .ok (.if_icmp .ne 8, 3) := by decide +kernel
theorem dX8_signOf_77 : decode cX8_signOf 77 = .ok (.bipush 17, 2) := by decide +kernel
theorem dX8_signOf_79 : decode cX8_signOf 79 = .ok (.goto 18, 3) := by decide +kernel
theorem dX8_signOf_82 : decode cX8_signOf 82 = .ok (.aload_n 0, 1) := by decide +kernel
theorem dX8_signOf_83 : decode cX8_signOf 83 = .ok (.getfield 146, 3) := by decide +kernel
theorem dX8_signOf_86 : decode cX8_signOf 86 = .ok (.bipush 42, 2) := by decide +kernel
theorem dX8_signOf_88 : decode cX8_signOf 88 = .ok (.if_icmp .ne 8, 3) := by decide +kernel
theorem dX8_signOf_91 : decode cX8_signOf 91 = .ok (.bipush 18, 2) := by decide +kernel
theorem dX8_signOf_93 : decode cX8_signOf 93 = .ok (.goto 4, 3) := by decide +kernel
theorem dX8_signOf_96 : decode cX8_signOf 96 = .ok (.iconst (-1), 1) := by decide +kernel
theorem dX8_signOf_97 : decode cX8_signOf 97 = .ok (.ireturn, 1) := by decide +kernel
theorem dX8_eRead_0 : decode cX8_eRead 0 = .ok (.aload_n 0, 1) := by decide +kernel
theorem dX8_eRead_1 : decode cX8_eRead 1 = .ok (.iconst 0, 1) := by decide +kernel
theorem dX8_eRead_2 : decode cX8_eRead 2 = .ok (.putfield 159, 3) := by decide +kernel
theorem dX8_eRead_5 : decode cX8_eRead 5 = .ok (.aload_n 0, 1) := by decide +kernel
theorem dX8_eRead_6 : decode cX8_eRead 6 = .ok (.iconst 0, 1) := by decide +kernel
theorem dX8_eRead_7 : decode cX8_eRead 7 = .ok (.putfield 165, 3) := by decide +kernel
theorem dX8_eRead_10 : decode cX8_eRead 10 = .ok (.iconst 1, 1) := by decide +kernel
theorem dX8_eRead_11 : decode cX8_eRead 11 = .ok (.istore_n 1, 1) := by decide +kernel
theorem dX8_eRead_12 : decode cX8_eRead 12 = .ok (.iconst 1, 1) := by decide +kernel
theorem dX8_eRead_13 : decode cX8_eRead 13 = .ok (.istore_n 2, 1) := by decide +kernel
theorem dX8_eRead_14 : decode cX8_eRead 14 = .ok (.aload_n 0, 1) := by decide +kernel
theorem dX8_eRead_15 : decode cX8_eRead 15 = .ok (.invokevirtual 178, 3) := by decide +kernel
theorem dX8_eRead_18 : decode cX8_eRead 18 = .ok (.iload_n 1, 1) := by decide +kernel
theorem dX8_eRead_19 : decode cX8_eRead 19 = .ok (.ifCond .eq 131, 3) := by decide +kernel
theorem dX8_eRead_22 : decode cX8_eRead 22 = .ok (.aload_n 0, 1) := by decide +kernel
theorem dX8_eRead_23 : decode cX8_eRead 23 = .ok (.getfield 146, 3) := by decide +kernel
theorem dX8_eRead_26 : decode cX8_eRead 26 = .ok (.iconst 1, 1) := by decide +kernel
theorem dX8_eRead_27 : decode cX8_eRead 27 = .ok (.if_icmp .eq 11, 3) := by decide +kernel
theorem dX8_eRead_30 : decode cX8_eRead 30 = .ok (.aload_n 0, 1) := by decide +kernel
theorem dX8_eRead_31 : decode cX8_eRead 31 = .ok (.getfield 146, 3) := by decide +kernel
theorem dX8_eRead_34 : decode cX8_eRead 34 = .ok (.iconst 2, 1) := by decide +kernel
theorem dX8_eRead_35 : decode cX8_eRead 35 = .ok (.if_icmp .ne 40, 3) := by decide +kernel
theorem dX8_eRead_38 : decode cX8_eRead 38 = .ok (.aload_n 0, 1) := by decide +kernel
theorem dX8_eRead_39 : decode cX8_eRead 39 = .ok (.aload_n 0, 1) := by decide +kernel
theorem dX8_eRead_40 : decode cX8_eRead 40 = .ok (.getfield 146, 3) := by decide +kernel
theorem dX8_eRead_43 : decode cX8_eRead 43 = .ok (.iconst 1, 1) := by decide +kernel
theorem dX8_eRead_44 : decode cX8_eRead 44 = .ok (.if_icmp .ne 13, 3) := by decide +kernel
theorem dX8_eRead_47 : decode cX8_eRead 47 = .ok (.ldc 181, 2) := by decide +kernel
theorem dX8_eRead_49 : decode cX8_eRead 49 = .ok (.aload_n 0, 1) := by decide +kernel
theorem dX8_eRead_50 : decode cX8_eRead 50 = .ok (.getfield 149, 3) := by decide +kernel
theorem dX8_eRead_53 : decode cX8_eRead 53 = .ok (.iadd, 1) := by decide +kernel
theorem dX8_eRead_54 : decode cX8_eRead 54 = .ok (.goto 7, 3) := by decide +kernel
theorem dX8_eRead_57 : decode cX8_eRead 57 = .ok (.aload_n 0, 1) := by decide +kernel
theorem dX8_eRead_58 : decode cX8_eRead 58 = .ok (.getfield 149, 3) := by decide +kernel
theorem dX8_eRead_61 : decode cX8_eRead 61 = .ok (.invokevirtual 168, 3) := by decide +kernel
theorem dX8_eRead_64 : decode cX8_eRead 64 = .ok (.aload_n 0, 1) := by decide +kernel
theorem dX8_eRead_65 : decode cX8_eRead 65 = .ok (.bipush 7, 2) := by decide +kernel
theorem dX8_eRead_67 : decode cX8_eRead 67 = .ok (.invokevirtual 175, 3) := by decide +kernel
theorem dX8_eRead_70 : decode cX8_eRead 70 = .ok (.iconst 0, 1) := by decide +kernel
theorem dX8_eRead_71 : decode cX8_eRead 71 = .ok (.istore_n 1, 1) := by decide +kernel
theorem dX8_eRead_72 : decode cX8_eRead 72 = .ok (.goto (-58), 3) := by decide +kernel
theorem dX8_eRead_75 : decode cX8_eRead 75 = .ok (.aload_n 0, 1) := by decide +kernel
theorem dX8_eRead_76 : decode cX8_eRead 76 = .ok (.getfield 146, 3) := by decide +kernel
theorem dX8_eRead_79 : decode cX8_eRead 79 = .ok (.bipush 6, 2) := by decide +kernel
theorem dX8_eRead_81 : decode cX8_eRead 81 = .ok (.if_icmp .ne 18, 3) := by decide +kernel
theorem dX8_eRead_84 : decode cX8_eRead 84 = .ok (.iload_n 2, 1) := by decide +kernel
theorem dX8_eRead_85 : decode cX8_eRead 85 = .ok (.ifCond .eq 14, 3) := by decide +kernel
theorem dX8_eRead_88 : decode cX8_eRead 88 = .ok (.aload_n 0, 1) := by decide +kernel
theorem dX8_eRead_89 : decode cX8_eRead 89 = .ok (.bipush 13, 2) := by decide +kernel
theorem dX8_eRead_91 : decode cX8_eRead 91 = .ok (.invokevirtual 182, 3) := by decide +kernel
theorem dX8_eRead_94 : decode cX8_eRead 94 = .ok (.ifCond .ne (-80), 3) := by decide +kernel
theorem dX8_eRead_97 : decode cX8_eRead 97 = .ok (.iconst 0, 1) := by decide +kernel
theorem dX8_eRead_98 : decode cX8_eRead 98 = .ok (.ireturn, 1) := by decide +kernel
theorem dX8_eRead_99 : decode cX8_eRead 99 = .ok (.aload_n 0, 1) := by decide +kernel
theorem dX8_eRead_100 : decode cX8_eRead 100 = .ok (.getfield 146, 3) := by decide +kernel
theorem dX8_eRead_103 : decode cX8_eRead 103 = .ok (.bipush 45, 2) := by decide +kernel
theorem dX8_eRead_105 : decode cX8_eRead 105 = .ok (.if_icmp .ne 19, 3) := by decide +kernel
theorem dX8_eRead_108 : decode cX8_eRead 108 = .ok (.aload_n 0, 1) := by decide +kernel
theorem dX8_eRead_109 : decode cX8_eRead 109 = .ok (.bipush 19, 2) := by decide +kernel
theorem dX8_eRead_111 : decode cX8_eRead 111 = .ok (.invokevirtual 182, 3) := by decide +kernel
theorem dX8_eRead_114 : decode cX8_eRead 114 = .ok (.ifCond .ne 5, 3) := by decide +kernel
theorem dX8_eRead_117 : decode cX8_eRead 117 = .ok (.iconst 0, 1) := by decide +kernel
theorem dX8_eRead_118 : decode cX8_eRead 118 = .ok (.ireturn, 1) := by decide +kernel
theorem dX8_eRead_119 : decode cX8_eRead 119 = .ok (.iconst 0, 1) := by decide +kernel
theorem dX8_eRead_120 : decode cX8_eRead 120 = .ok (.istore_n 2, 1) := by decide +kernel
theorem dX8_eRead_121 : decode cX8_eRead 121 = .ok (.goto (-107), 3) := by decide +kernel
theorem dX8_eRead_124 : decode cX8_eRead 124 = .ok (.aload_n 0, 1) := by decide +kernel
theorem dX8_eRead_125 : decode cX8_eRead 125 = .ok (.getfield 146, 3) := by decide +kernel
theorem dX8_eRead_128 : decode cX8_eRead 128 = .ok (.bipush 40, 2) := by decide +kernel
theorem dX8_eRead_130 : decode cX8_eRead 130 = .ok (.if_icmp .ne 18, 3) := by decide +kernel
theorem dX8_eRead_133 : decode cX8_eRead 133 = .ok (.aload_n 0, 1) := by decide +kernel
theorem dX8_eRead_134 : decode cX8_eRead 134 = .ok (.iconst 0, 1) := by decide +kernel
theorem dX8_eRead_135 : decode cX8_eRead 135 = .ok (.invokevirtual 182, 3) := by decide +kernel
theorem dX8_eRead_138 : decode cX8_eRead 138 = .ok (.ifCond .ne 5, 3) := by decide +kernel
theorem dX8_eRead_141 : decode cX8_eRead 141 = .ok (.iconst 0, 1) := by decide +kernel
theorem dX8_eRead_142 : decode cX8_eRead 142 = .ok (.ireturn, 1) := by decide +kernel
theorem dX8_eRead_143 : decode cX8_eRead 143 = .ok (.iconst 1, 1) := by decide +kernel
theorem dX8_eRead_144 : decode cX8_eRead 144 = .ok (.istore_n 2, 1) := by decide +kernel
theorem dX8_eRead_145 : decode cX8_eRead 145 = .ok (.goto (-131), 3) := by decide +kernel
theorem dX8_eRead_148 : decode cX8_eRead 148 = .ok (.iconst 0, 1) := by decide +kernel
theorem dX8_eRead_149 : decode cX8_eRead 149 = .ok (.ireturn, 1) := by decide +kernel
theorem dX8_eRead_150 : decode cX8_eRead 150 = .ok (.aload_n 0, 1) := by decide +kernel
theorem dX8_eRead_151 : decode cX8_eRead 151 = .ok (.getfield 146, 3) := by decide +kernel
theorem dX8_eRead_154 : decode cX8_eRead 154 = .ok (.bipush 59, 2) := by decide +kernel
theorem dX8_eRead_156 : decode cX8_eRead 156 = .ok (.if_icmp .ne 21, 3) := by decide +kernel
theorem dX8_eRead_159 : decode cX8_eRead 159 = .ok (.aload_n 0, 1) := by decide +kernel
theorem dX8_eRead_160 : decode cX8_eRead 160 = .ok (.iconst 1, 1) := by decide +kernel
theorem dX8_eRead_161 : decode cX8_eRead 161 = .ok (.invokevirtual 175, 3) := by decide +kernel
theorem dX8_eRead_164 : decode cX8_eRead 164 = .ok (.aload_n 0, 1) := by decide +kernel
theorem dX8_eRead_165 : decode cX8_eRead 165 = .ok (.getfield 159, 3) := by decide +kernel
theorem dX8_eRead_168 : decode cX8_eRead 168 = .ok (.ifCond .ne 7, 3) := by decide +kernel
theorem dX8_eRead_171 : decode cX8_eRead 171 = .ok (.iconst 1, 1) := by decide +kernel
theorem dX8_eRead_172 : decode cX8_eRead 172 = .ok (.goto 4, 3) := by decide +kernel
theorem dX8_eRead_175 : decode cX8_eRead 175 = .ok (.iconst 0, 1) := by decide +kernel
theorem dX8_eRead_176 : decode cX8_eRead 176 = .ok (.ireturn, 1) := by decide +kernel
theorem dX8_eRead_177 : decode cX8_eRead 177 = .ok (.aload_n 0, 1) := by decide +kernel
theorem dX8_eRead_178 : decode cX8_eRead 178 = .ok (.getfield 146, 3) := by decide +kernel
theorem dX8_eRead_181 : decode cX8_eRead 181 = .ok (.bipush 41, 2) := by decide +kernel
theorem dX8_eRead_183 : decode cX8_eRead 183 = .ok (.if_icmp .ne 46, 3) := by decide +kernel
theorem dX8_eRead_186 : decode cX8_eRead 186 = .ok (.aload_n 0, 1) := by decide +kernel
theorem dX8_eRead_187 : decode cX8_eRead 187 = .ok (.iconst 1, 1) := by decide +kernel
theorem dX8_eRead_188 : decode cX8_eRead 188 = .ok (.invokevirtual 175, 3) := by decide +kernel
theorem dX8_eRead_191 : decode cX8_eRead 191 = .ok (.aload_n 0, 1) := by decide +kernel
theorem dX8_eRead_192 : decode cX8_eRead 192 = .ok (.getfield 159, 3) := by decide +kernel
theorem dX8_eRead_195 : decode cX8_eRead 195 = .ok (.ifCond .ne 5, 3) := by decide +kernel
theorem dX8_eRead_198 : decode cX8_eRead 198 = .ok (.iconst 0, 1) := by decide +kernel
theorem dX8_eRead_199 : decode cX8_eRead 199 = .ok (.ireturn, 1) := by decide +kernel
theorem dX8_eRead_200 : decode cX8_eRead 200 = .ok (.aload_n 0, 1) := by decide +kernel
theorem dX8_eRead_201 : decode cX8_eRead 201 = .ok (.dup, 1) := by decide +kernel
theorem dX8_eRead_202 : decode cX8_eRead 202 = .ok (.getfield 159, 3) := by decide +kernel
theorem dX8_eRead_205 : decode cX8_eRead 205 = .ok (.iconst 1, 1) := by decide +kernel
theorem dX8_eRead_206 : decode cX8_eRead 206 = .ok (.isub, 1) := by decide +kernel
theorem dX8_eRead_207 : decode cX8_eRead 207 = .ok (.putfield 159, 3) := by decide +kernel
theorem dX8_eRead_210 : decode cX8_eRead 210 = .ok (.aload_n 0, 1) := by decide +kernel
theorem dX8_eRead_211 : decode cX8_eRead 211 = .ok (.dup, 1) := by decide +kernel
theorem dX8_eRead_212 : decode cX8_eRead 212 = .ok (.getfield 165, 3) := by decide +kernel
theorem dX8_eRead_215 : decode cX8_eRead 215 = .ok (.iconst 1, 1) := by decide +kernel
theorem dX8_eRead_216 : decode cX8_eRead 216 = .ok (.isub, 1) := by decide +kernel
theorem dX8_eRead_217 : decode cX8_eRead 217 = .ok (.putfield 165, 3) := by decide +kernel
theorem dX8_eRead_220 : decode cX8_eRead 220 = .ok (.aload_n 0, 1) := by decide +kernel
theorem dX8_eRead_221 : decode cX8_eRead 221 = .ok (.bipush 7, 2) := by decide +kernel
theorem dX8_eRead_223 : decode cX8_eRead 223 = .ok (.invokevirtual 175, 3) := by decide +kernel
theorem dX8_eRead_226 : decode cX8_eRead 226 = .ok (.goto (-212), 3) := by decide +kernel
theorem dX8_eRead_229 : decode cX8_eRead 229 = .ok (.aload_n 0, 1) := by decide +kernel
theorem dX8_eRead_230 : decode cX8_eRead 230 = .ok (.invokevirtual 185, 3) := by decide +kernel
theorem dX8_eRead_233 : decode cX8_eRead 233 = .ok (.istore_n 3, 1) := by decide +kernel
theorem dX8_eRead_234 : decode cX8_eRead 234 = .ok (.iload_n 3, 1) := by decide +kernel
theorem dX8_eRead_235 : decode cX8_eRead 235 = .ok (.iconst (-1), 1) := by decide +kernel
theorem dX8_eRead_236 : decode cX8_eRead 236 = .ok (.if_icmp .eq 11, 3) := by decide +kernel
theorem dX8_eRead_239 : decode cX8_eRead 239 = .ok (.aload_n 0, 1) := by decide +kernel
theorem dX8_eRead_240 : decode cX8_eRead 240 = .ok (.iload_n 3, 1) := by decide +kernel
theorem dX8_eRead_241 : decode cX8_eRead 241 = .ok (.invokevirtual 188, 3) := by decide +kernel
theorem dX8_eRead_244 : decode cX8_eRead 244 = .ok (.ifCond .ne 5, 3) := by decide +kernel
theorem dX8_eRead_247 : decode cX8_eRead 247 = .ok (.iconst 0, 1) := by decide +kernel
theorem dX8_eRead_248 : decode cX8_eRead 248 = .ok (.ireturn, 1) := by decide +kernel
theorem dX8_eRead_249 : decode cX8_eRead 249 = .ok (.iconst 1, 1) := by decide +kernel
theorem dX8_eRead_250 : decode cX8_eRead 250 = .ok (.istore_n 1, 1) := by decide +kernel
theorem dX8_eRead_251 : decode cX8_eRead 251 = .ok (.iload_n 3, 1) := by decide +kernel
theorem dX8_eRead_252 : decode cX8_eRead 252 = .ok (.bipush 12, 2) := by decide +kernel
theorem dX8_eRead_254 : decode cX8_eRead 254 = .ok (.if_icmp .gt 7, 3) := by decide +kernel
theorem dX8_eRead_257 : decode cX8_eRead 257 = .ok (.iconst 1, 1) := by decide +kernel
theorem dX8_eRead_258 : decode cX8_eRead 258 = .ok (.goto 4, 3) := by decide +kernel
theorem dX8_eRead_261 : decode cX8_eRead 261 = .ok (.iconst 0, 1) := by decide +kernel
theorem dX8_eRead_262 : decode cX8_eRead 262 = .ok (.istore_n 2, 1) := by decide +kernel
theorem dX8_eRead_263 : decode cX8_eRead 263 = .ok (.goto (-249), 3) := by decide +kernel
theorem dX8_text_0 : decode cX8_text 0 = .ok (.aload_n 0, 1) := by decide +kernel
theorem dX8_text_1 : decode cX8_text 1 = .ok (.getfield 113, 3) := by decide +kernel
theorem dX8_text_4 : decode cX8_text 4 = .ok (.bipush 6, 2) := by decide +kernel
theorem dX8_text_6 : decode cX8_text 6 = .ok (.if_icmp .ne 6, 3) := by decide +kernel
theorem dX8_text_9 : decode cX8_text 9 = .ok (.bipush (-4), 2) := by decide +kernel
theorem dX8_text_11 : decode cX8_text 11 = .ok (.ireturn, 1) := by decide +kernel
theorem dX8_text_12 : decode cX8_text 12 = .ok (.aload_n 0, 1) := by decide +kernel
theorem dX8_text_13 : decode cX8_text 13 = .ok (.iconst 0, 1) := by decide +kernel
theorem dX8_text_14 : decode cX8_text 14 = .ok (.putfield 140, 3) := by decide +kernel
theorem dX8_text_17 : decode cX8_text 17 = .ok (.aload_n 0, 1) := by decide +kernel
theorem dX8_text_18 : decode cX8_text 18 = .ok (.iconst 0, 1) := by decide +kernel
theorem dX8_text_19 : decode cX8_text 19 = .ok (.putfield 156, 3) := by decide +kernel
theorem dX8_text_22 : decode cX8_text 22 = .ok (.iconst 1, 1) := by decide +kernel
theorem dX8_text_23 : decode cX8_text 23 = .ok (.istore_n 1, 1) := by decide +kernel
theorem dX8_text_24 : decode cX8_text 24 = .ok (.iconst 0, 1) := by decide +kernel
theorem dX8_text_25 : decode cX8_text 25 = .ok (.istore_n 2, 1) := by decide +kernel
theorem dX8_text_26 : decode cX8_text 26 = .ok (.iload_n 2, 1) := by decide +kernel
theorem dX8_text_27 : decode cX8_text 27 = .ok (.iconst 3, 1) := by decide +kernel
theorem dX8_text_28 : decode cX8_text 28 = .ok (.if_icmp .ge 73, 3) := by decide +kernel
theorem dX8_text_31 : decode cX8_text 31 = .ok (.iload_n 1, 1) := by decide +kernel
theorem dX8_text_32 : decode cX8_text 32 = .ok (.ifCond .eq 69, 3) := by decide +kernel
theorem dX8_text_35 : decode cX8_text 35 = .ok (.aload_n 0, 1) := by decide +kernel
theorem dX8_text_36 : decode cX8_text 36 = .ok (.invokevirtual 178, 3) := by decide +kernel
theorem dX8_text_39 : decode cX8_text 39 = .ok (.aload_n 0, 1) := by decide +kernel
theorem dX8_text_40 : decode cX8_text 40 = .ok (.getfield 146, 3) := by decide +kernel
theorem dX8_text_43 : decode cX8_text 43 = .ok (.iconst 3, 1) := by decide +kernel
theorem dX8_text_44 : decode cX8_text 44 = .ok (.if_icmp .ne 15, 3) := by decide +kernel
theorem dX8_text_47 : decode cX8_text 47 = .ok (.aload_n 0, 1) := by decide +kernel
theorem dX8_text_48 : decode cX8_text 48 = .ok (.getfield 149, 3) := by decide +kernel
theorem dX8_text_51 : decode cX8_text 51 = .ok (.iload_n 2, 1) := by decide +kernel
theorem dX8_text_52 : decode cX8_text 52 = .ok (.if_icmp .ne 7, 3) := by decide +kernel
theorem dX8_text_55 : decode cX8_text 55 = .ok (.iconst 1, 1) := by decide +kernel
theorem dX8_text_56 : decode cX8_text 56 = .ok (.goto 4, 3) := by decide +kernel
theorem dX8_text_59 : decode cX8_text 59 = .ok (.iconst 0, 1) := by decide +kernel
theorem dX8_text_60 : decode cX8_text 60 = .ok (.istore_n 1, 1) := by decide +kernel
theorem dX8_text_61 : decode cX8_text 61 = .ok (.aload_n 0, 1) := by decide +kernel
theorem dX8_text_62 : decode cX8_text 62 = .ok (.getfield 32, 3) := by decide +kernel
theorem dX8_text_65 : decode cX8_text 65 = .ok (.iconst 4, 1) := by decide +kernel
theorem dX8_text_66 : decode cX8_text 66 = .ok (.aload_n 0, 1) := by decide +kernel
theorem dX8_text_67 : decode cX8_text 67 = .ok (.getfield 113, 3) := by decide +kernel
theorem dX8_text_70 : decode cX8_text 70 = .ok (.imul, 1) := by decide +kernel
theorem dX8_text_71 : decode cX8_text 71 = .ok (.iload_n 2, 1) := by decide +kernel
theorem dX8_text_72 : decode cX8_text 72 = .ok (.iadd, 1) := by decide +kernel
theorem dX8_text_73 : decode cX8_text 73 = .ok (.aload_n 0, 1) := by decide +kernel
theorem dX8_text_74 : decode cX8_text 74 = .ok (.getfield 156, 3) := by decide +kernel
theorem dX8_text_77 : decode cX8_text 77 = .ok (.iastore, 1) := by decide +kernel
theorem dX8_text_78 : decode cX8_text 78 = .ok (.iload_n 1, 1) := by decide +kernel
theorem dX8_text_79 : decode cX8_text 79 = .ok (.ifCond .eq 14, 3) := by decide +kernel
theorem dX8_text_82 : decode cX8_text 82 = .ok (.aload_n 0, 1) := by decide +kernel
theorem dX8_text_83 : decode cX8_text 83 = .ok (.invokevirtual 191, 3) := by decide +kernel
theorem dX8_text_86 : decode cX8_text 86 = .ok (.ifCond .eq 7, 3) := by decide +kernel
theorem dX8_text_89 : decode cX8_text 89 = .ok (.iconst 1, 1) := by decide +kernel
theorem dX8_text_90 : decode cX8_text 90 = .ok (.goto 4, 3) := by decide +kernel
theorem dX8_text_93 : decode cX8_text 93 = .ok (.iconst 0, 1) := by decide +kernel
theorem dX8_text_94 : decode cX8_text 94 = .ok (.istore_n 1, 1) := by decide +kernel
theorem dX8_text_95 : decode cX8_text 95 = .ok (.iinc 2 1, 3) := by decide +kernel
theorem dX8_text_98 : decode cX8_text 98 = .ok (.goto (-72), 3) := by decide +kernel
theorem dX8_text_101 : decode cX8_text 101 = .ok (.iload_n 1, 1) := by decide +kernel
theorem dX8_text_102 : decode cX8_text 102 = .ok (.ifCond .eq 20, 3) := by decide +kernel
theorem dX8_text_105 : decode cX8_text 105 = .ok (.aload_n 0, 1) := by decide +kernel
theorem dX8_text_106 : decode cX8_text 106 = .ok (.invokevirtual 178, 3) := by decide +kernel
theorem dX8_text_109 : decode cX8_text 109 = .ok (.aload_n 0, 1) := by decide +kernel
theorem dX8_text_110 : decode cX8_text 110 = .ok (.getfield 146, 3) := by decide +kernel
theorem dX8_text_113 : decode cX8_text 113 = .ok (.ifCond .ne 7, 3) := by decide +kernel
theorem dX8_text_116 : decode cX8_text 116 = .ok (.iconst 1, 1) := by decide +kernel
theorem dX8_text_117 : decode cX8_text 117 = .ok (.goto 4, 3) := by decide +kernel
theorem dX8_text_120 : decode cX8_text 120 = .ok (.iconst 0, 1) := by decide +kernel
theorem dX8_text_121 : decode cX8_text 121 = .ok (.istore_n 1, 1) := by decide +kernel
theorem dX8_text_122 : decode cX8_text 122 = .ok (.aload_n 0, 1) := by decide +kernel
theorem dX8_text_123 : decode cX8_text 123 = .ok (.getfield 32, 3) := by decide +kernel
theorem dX8_text_126 : decode cX8_text 126 = .ok (.iconst 4, 1) := by decide +kernel
theorem dX8_text_127 : decode cX8_text 127 = .ok (.aload_n 0, 1) := by decide +kernel
theorem dX8_text_128 : decode cX8_text 128 = .ok (.getfield 113, 3) := by decide +kernel
theorem dX8_text_131 : decode cX8_text 131 = .ok (.imul, 1) := by decide +kernel
theorem dX8_text_132 : decode cX8_text 132 = .ok (.iconst 3, 1) := by decide +kernel
theorem dX8_text_133 : decode cX8_text 133 = .ok (.iadd, 1) := by decide +kernel
theorem dX8_text_134 : decode cX8_text 134 = .ok (.aload_n 0, 1) := by decide +kernel
theorem dX8_text_135 : decode cX8_text 135 = .ok (.getfield 156, 3) := by decide +kernel
theorem dX8_text_138 : decode cX8_text 138 = .ok (.iastore, 1) := by decide +kernel
theorem dX8_text_139 : decode cX8_text 139 = .ok (.aload_n 0, 1) := by decide +kernel
theorem dX8_text_140 : decode cX8_text 140 = .ok (.iconst 0, 1) := by decide +kernel
theorem dX8_text_141 : decode cX8_text 141 = .ok (.putfield 80, 3) := by decide +kernel
theorem dX8_text_144 : decode cX8_text 144 = .ok (.iload_n 1, 1) := by decide +kernel
theorem dX8_text_145 : decode cX8_text 145 = .ok (.ifCond .ne 11, 3) := by decide +kernel
theorem dX8_text_148 : decode cX8_text 148 = .ok (.bipush (-100), 2) := by decide +kernel
theorem dX8_text_150 : decode cX8_text 150 = .ok (.aload_n 0, 1) := by decide +kernel
theorem dX8_text_151 : decode cX8_text 151 = .ok (.getfield 143, 3) := by decide +kernel
theorem dX8_text_154 : decode cX8_text 154 = .ok (.isub, 1) := by decide +kernel
theorem dX8_text_155 : decode cX8_text 155 = .ok (.ireturn, 1) := by decide +kernel
theorem dX8_text_156 : decode cX8_text 156 = .ok (.aload_n 0, 1) := by decide +kernel
theorem dX8_text_157 : decode cX8_text 157 = .ok (.dup, 1) := by decide +kernel
theorem dX8_text_158 : decode cX8_text 158 = .ok (.getfield 113, 3) := by decide +kernel
theorem dX8_text_161 : decode cX8_text 161 = .ok (.iconst 1, 1) := by decide +kernel
theorem dX8_text_162 : decode cX8_text 162 = .ok (.iadd, 1) := by decide +kernel
theorem dX8_text_163 : decode cX8_text 163 = .ok (.putfield 113, 3) := by decide +kernel
theorem dX8_text_166 : decode cX8_text 166 = .ok (.aload_n 0, 1) := by decide +kernel
theorem dX8_text_167 : decode cX8_text 167 = .ok (.getfield 113, 3) := by decide +kernel
theorem dX8_text_170 : decode cX8_text 170 = .ok (.iconst 1, 1) := by decide +kernel
theorem dX8_text_171 : decode cX8_text 171 = .ok (.isub, 1) := by decide +kernel
theorem dX8_text_172 : decode cX8_text 172 = .ok (.ireturn, 1) := by decide +kernel
theorem dX8_two_0 : decode cX8_two 0 = .ok (.iload_n 0, 1) := by decide +kernel
theorem dX8_two_1 : decode cX8_two 1 = .ok (.tableswitch 101 11 17 #[43, 57, 101, 71, 82, 93, 97], 43) := by decide +kernel
theorem dX8_two_44 : decode cX8_two 44 = .ok (.iload_n 1, 1) := by decide +kernel
theorem dX8_two_45 : decode cX8_two 45 = .ok (.ifCond .ne 7, 3) := by decide +kernel
theorem dX8_two_48 : decode cX8_two 48 = .ok (.iload_n 2, 1) := by decide +kernel
theorem dX8_two_49 : decode cX8_two 49 = .ok (.ifCond .eq 7, 3) := by decide +kernel
theorem dX8_two_52 : decode cX8_two 52 = .ok (.iconst 1, 1) := by decide +kernel
theorem dX8_two_53 : decode cX8_two 53 = .ok (.goto 4, 3) := by decide +kernel
theorem dX8_two_56 : decode cX8_two 56 = .ok (.iconst 0, 1) := by decide +kernel
theorem dX8_two_57 : decode cX8_two 57 = .ok (.ireturn, 1) := by decide +kernel
theorem dX8_two_58 : decode cX8_two 58 = .ok (.iload_n 1, 1) := by decide +kernel
theorem dX8_two_59 : decode cX8_two 59 = .ok (.ifCond .eq 11, 3) := by decide +kernel
theorem dX8_two_62 : decode cX8_two 62 = .ok (.iload_n 2, 1) := by decide +kernel
theorem dX8_two_63 : decode cX8_two 63 = .ok (.ifCond .eq 7, 3) := by decide +kernel
theorem dX8_two_66 : decode cX8_two 66 = .ok (.iconst 1, 1) := by decide +kernel
theorem dX8_two_67 : decode cX8_two 67 = .ok (.goto 4, 3) := by decide +kernel
theorem dX8_two_70 : decode cX8_two 70 = .ok (.iconst 0, 1) := by decide +kernel
theorem dX8_two_71 : decode cX8_two 71 = .ok (.ireturn, 1) := by decide +kernel
theorem dX8_two_72 : decode cX8_two 72 = .ok (.iload_n 1, 1) := by decide +kernel
theorem dX8_two_73 : decode cX8_two 73 = .ok (.iload_n 2, 1) := by decide +kernel
theorem dX8_two_74 : decode cX8_two 74 = .ok (.if_icmp .ge 7, 3) := by decide +kernel
theorem dX8_two_77 : decode cX8_two 77 = .ok (.iconst 1, 1) := by decide +kernel
theorem dX8_two_78 : decode cX8_two 78 = .ok (.goto 4, 3) := by decide +kernel
theorem dX8_two_81 : decode cX8_two 81 = .ok (.iconst 0, 1) := by decide +kernel
theorem dX8_two_82 : decode cX8_two 82 = .ok (.ireturn, 1) := by decide +kernel
theorem dX8_two_83 : decode cX8_two 83 = .ok (.iload_n 1, 1) := by decide +kernel
theorem dX8_two_84 : decode cX8_two 84 = .ok (.iload_n 2, 1) := by decide +kernel
theorem dX8_two_85 : decode cX8_two 85 = .ok (.if_icmp .ne 7, 3) := by decide +kernel
theorem dX8_two_88 : decode cX8_two 88 = .ok (.iconst 1, 1) := by decide +kernel
theorem dX8_two_89 : decode cX8_two 89 = .ok (.goto 4, 3) := by decide +kernel
theorem dX8_two_92 : decode cX8_two 92 = .ok (.iconst 0, 1) := by decide +kernel
theorem dX8_two_93 : decode cX8_two 93 = .ok (.ireturn, 1) := by decide +kernel
theorem dX8_two_94 : decode cX8_two 94 = .ok (.iload_n 1, 1) := by decide +kernel
theorem dX8_two_95 : decode cX8_two 95 = .ok (.iload_n 2, 1) := by decide +kernel
theorem dX8_two_96 : decode cX8_two 96 = .ok (.iadd, 1) := by decide +kernel
theorem dX8_two_97 : decode cX8_two 97 = .ok (.ireturn, 1) := by decide +kernel
theorem dX8_two_98 : decode cX8_two 98 = .ok (.iload_n 1, 1) := by decide +kernel
theorem dX8_two_99 : decode cX8_two 99 = .ok (.iload_n 2, 1) := by decide +kernel
theorem dX8_two_100 : decode cX8_two 100 = .ok (.isub, 1) := by decide +kernel
theorem dX8_two_101 : decode cX8_two 101 = .ok (.ireturn, 1) := by decide +kernel
theorem dX8_two_102 : decode cX8_two 102 = .ok (.iload_n 1, 1) := by decide +kernel
theorem dX8_two_103 : decode cX8_two 103 = .ok (.iload_n 2, 1) := by decide +kernel
theorem dX8_two_104 : decode cX8_two 104 = .ok (.imul, 1) := by decide +kernel
theorem dX8_two_105 : decode cX8_two 105 = .ok (.ireturn, 1) := by decide +kernel
theorem dX8_says_0 : decode cX8_says 0 = .ok (.iconst 0, 1) := by decide +kernel
theorem dX8_says_1 : decode cX8_says 1 = .ok (.istore_n 2, 1) := by decide +kernel
theorem dX8_says_2 : decode cX8_says 2 = .ok (.aload_n 0, 1) := by decide +kernel
theorem dX8_says_3 : decode cX8_says 3 = .ok (.getfield 32, 3) := by decide +kernel
theorem dX8_says_6 : decode cX8_says 6 = .ok (.iconst 4, 1) := by decide +kernel
theorem dX8_says_7 : decode cX8_says 7 = .ok (.aload_n 0, 1) := by decide +kernel
theorem dX8_says_8 : decode cX8_says 8 = .ok (.getfield 116, 3) := by decide +kernel
theorem dX8_says_11 : decode cX8_says 11 = .ok (.imul, 1) := by decide +kernel
theorem dX8_says_12 : decode cX8_says 12 = .ok (.iload_n 1, 1) := by decide +kernel
theorem dX8_says_13 : decode cX8_says 13 = .ok (.iadd, 1) := by decide +kernel
theorem dX8_says_14 : decode cX8_says 14 = .ok (.iaload, 1) := by decide +kernel
theorem dX8_says_15 : decode cX8_says 15 = .ok (.istore_n 3, 1) := by decide +kernel
theorem dX8_says_16 : decode cX8_says 16 = .ok (.iload_n 3, 1) := by decide +kernel
theorem dX8_says_17 : decode cX8_says 17 = .ok (.aload_n 0, 1) := by decide +kernel
theorem dX8_says_18 : decode cX8_says 18 = .ok (.getfield 32, 3) := by decide +kernel
theorem dX8_says_21 : decode cX8_says 21 = .ok (.iconst 4, 1) := by decide +kernel
theorem dX8_says_22 : decode cX8_says 22 = .ok (.aload_n 0, 1) := by decide +kernel
theorem dX8_says_23 : decode cX8_says 23 = .ok (.getfield 116, 3) := by decide +kernel
theorem dX8_says_26 : decode cX8_says 26 = .ok (.imul, 1) := by decide +kernel
theorem dX8_says_27 : decode cX8_says 27 = .ok (.iload_n 1, 1) := by decide +kernel
theorem dX8_says_28 : decode cX8_says 28 = .ok (.iadd, 1) := by decide +kernel
theorem dX8_says_29 : decode cX8_says 29 = .ok (.iconst 1, 1) := by decide +kernel
theorem dX8_says_30 : decode cX8_says 30 = .ok (.iadd, 1) := by decide +kernel
theorem dX8_says_31 : decode cX8_says 31 = .ok (.iaload, 1) := by decide +kernel
theorem dX8_says_32 : decode cX8_says 32 = .ok (.if_icmp .ge 165, 3) := by decide +kernel
theorem dX8_says_35 : decode cX8_says 35 = .ok (.aload_n 0, 1) := by decide +kernel
theorem dX8_says_36 : decode cX8_says 36 = .ok (.getfield 29, 3) := by decide +kernel
theorem dX8_says_39 : decode cX8_says 39 = .ok (.sipush 200, 3) := by decide +kernel
theorem dX8_says_42 : decode cX8_says 42 = .ok (.aload_n 0, 1) := by decide +kernel
theorem dX8_says_43 : decode cX8_says 43 = .ok (.getfield 116, 3) := by decide +kernel
theorem dX8_says_46 : decode cX8_says 46 = .ok (.imul, 1) := by decide +kernel
theorem dX8_says_47 : decode cX8_says 47 = .ok (.iload_n 3, 1) := by decide +kernel
theorem dX8_says_48 : decode cX8_says 48 = .ok (.iadd, 1) := by decide +kernel
theorem dX8_says_49 : decode cX8_says 49 = .ok (.iaload, 1) := by decide +kernel
theorem dX8_says_50 : decode cX8_says 50 = .ok (.istore 4, 2) := by decide +kernel
theorem dX8_says_52 : decode cX8_says 52 = .ok (.iload 4, 2) := by decide +kernel
theorem dX8_says_54 : decode cX8_says 54 = .ok (.ldc 181, 2) := by decide +kernel
theorem dX8_says_56 : decode cX8_says 56 = .ok (.if_icmp .ge 10, 3) := by decide +kernel
theorem dX8_says_59 : decode cX8_says 59 = .ok (.iload 4, 2) := by decide +kernel
theorem dX8_says_61 : decode cX8_says 61 = .ok (.bipush 11, 2) := by decide +kernel
theorem dX8_says_63 : decode cX8_says 63 = .ok (.if_icmp .ge 37, 3) := by decide +kernel
theorem dX8_says_66 : decode cX8_says 66 = .ok (.aload_n 0, 1) := by decide +kernel
theorem dX8_says_67 : decode cX8_says 67 = .ok (.getfield 62, 3) := by decide +kernel
theorem dX8_says_70 : decode cX8_says 70 = .ok (.iload_n 2, 1) := by decide +kernel
theorem dX8_says_71 : decode cX8_says 71 = .ok (.iload 4, 2) := by decide +kernel
theorem dX8_says_73 : decode cX8_says 73 = .ok (.bipush 11, 2) := by decide +kernel
theorem dX8_says_75 : decode cX8_says 75 = .ok (.if_icmp .ge 13, 3) := by decide +kernel
theorem dX8_says_78 : decode cX8_says 78 = .ok (.aload_n 0, 1) := by decide +kernel
theorem dX8_says_79 : decode cX8_says 79 = .ok (.getfield 65, 3) := by decide +kernel
theorem dX8_says_82 : decode cX8_says 82 = .ok (.iload 4, 2) := by decide +kernel
theorem dX8_says_84 : decode cX8_says 84 = .ok (.iaload, 1) := by decide +kernel
theorem dX8_says_85 : decode cX8_says 85 = .ok (.goto 8, 3) := by decide +kernel
theorem dX8_says_88 : decode cX8_says 88 = .ok (.iload 4, 2) := by decide +kernel
theorem dX8_says_90 : decode cX8_says 90 = .ok (.ldc 181, 2) := by decide +kernel
theorem dX8_says_92 : decode cX8_says 92 = .ok (.isub, 1) := by decide +kernel
theorem dX8_says_93 : decode cX8_says 93 = .ok (.iastore, 1) := by decide +kernel
theorem dX8_says_94 : decode cX8_says 94 = .ok (.iinc 2 1, 3) := by decide +kernel
theorem dX8_says_97 : decode cX8_says 97 = .ok (.goto 94, 3) := by decide +kernel
theorem dX8_says_100 : decode cX8_says 100 = .ok (.iload 4, 2) := by decide +kernel
theorem dX8_says_102 : decode cX8_says 102 = .ok (.bipush 13, 2) := by decide +kernel
theorem dX8_says_104 : decode cX8_says 104 = .ok (.if_icmp .ne 30, 3) := by decide +kernel
theorem dX8_says_107 : decode cX8_says 107 = .ok (.aload_n 0, 1) := by decide +kernel
theorem dX8_says_108 : decode cX8_says 108 = .ok (.getfield 62, 3) := by decide +kernel
theorem dX8_says_111 : decode cX8_says 111 = .ok (.iload_n 2, 1) := by decide +kernel
theorem dX8_says_112 : decode cX8_says 112 = .ok (.iconst 1, 1) := by decide +kernel
theorem dX8_says_113 : decode cX8_says 113 = .ok (.isub, 1) := by decide +kernel
theorem dX8_says_114 : decode cX8_says 114 = .ok (.aload_n 0, 1) := by decide +kernel
theorem dX8_says_115 : decode cX8_says 115 = .ok (.getfield 62, 3) := by decide +kernel
theorem dX8_says_118 : decode cX8_says 118 = .ok (.iload_n 2, 1) := by decide +kernel
theorem dX8_says_119 : decode cX8_says 119 = .ok (.iconst 1, 1) := by decide +kernel
theorem dX8_says_120 : decode cX8_says 120 = .ok (.isub, 1) := by decide +kernel
theorem dX8_says_121 : decode cX8_says 121 = .ok (.iaload, 1) := by decide +kernel
theorem dX8_says_122 : decode cX8_says 122 = .ok (.ifCond .ne 7, 3) := by decide +kernel
theorem dX8_says_125 : decode cX8_says 125 = .ok (.iconst 1, 1) := by decide +kernel
theorem dX8_says_126 : decode cX8_says 126 = .ok (.goto 4, 3) := by decide +kernel
theorem dX8_says_129 : decode cX8_says 129 = .ok (.iconst 0, 1) := by decide +kernel
theorem dX8_says_130 : decode cX8_says 130 = .ok (.iastore, 1) := by decide +kernel
theorem dX8_says_131 : decode cX8_says 131 = .ok (.goto 60, 3) := by decide +kernel
theorem dX8_says_134 : decode cX8_says 134 = .ok (.iload 4, 2) := by decide +kernel
theorem dX8_says_136 : decode cX8_says 136 = .ok (.bipush 19, 2) := by decide +kernel
theorem dX8_says_138 : decode cX8_says 138 = .ok (.if_icmp .ne 23, 3) := by decide +kernel
theorem dX8_says_141 : decode cX8_says 141 = .ok (.aload_n 0, 1) := by decide +kernel
theorem dX8_says_142 : decode cX8_says 142 = .ok (.getfield 62, 3) := by decide +kernel
theorem dX8_says_145 : decode cX8_says 145 = .ok (.iload_n 2, 1) := by decide +kernel
theorem dX8_says_146 : decode cX8_says 146 = .ok (.iconst 1, 1) := by decide +kernel
theorem dX8_says_147 : decode cX8_says 147 = .ok (.isub, 1) := by decide +kernel
theorem dX8_says_148 : decode cX8_says 148 = .ok (.aload_n 0, 1) := by decide +kernel
theorem dX8_says_149 : decode cX8_says 149 = .ok (.getfield 62, 3) := by decide +kernel
theorem dX8_says_152 : decode cX8_says 152 = .ok (.iload_n 2, 1) := by decide +kernel
theorem dX8_says_153 : decode cX8_says 153 = .ok (.iconst 1, 1) := by decide +kernel
theorem dX8_says_154 : decode cX8_says 154 = .ok (.isub, 1) := by decide +kernel
theorem dX8_says_155 : decode cX8_says 155 = .ok (.iaload, 1) := by decide +kernel
theorem dX8_says_156 : decode cX8_says 156 = .ok (.ineg, 1) := by decide +kernel
theorem dX8_says_157 : decode cX8_says 157 = .ok (.iastore, 1) := by decide +kernel
theorem dX8_says_158 : decode cX8_says 158 = .ok (.goto 33, 3) := by decide +kernel
theorem dX8_says_161 : decode cX8_says 161 = .ok (.iinc 2 (-1), 3) := by decide +kernel
theorem dX8_says_164 : decode cX8_says 164 = .ok (.aload_n 0, 1) := by decide +kernel
theorem dX8_says_165 : decode cX8_says 165 = .ok (.getfield 62, 3) := by decide +kernel
theorem dX8_says_168 : decode cX8_says 168 = .ok (.iload_n 2, 1) := by decide +kernel
theorem dX8_says_169 : decode cX8_says 169 = .ok (.iconst 1, 1) := by decide +kernel
theorem dX8_says_170 : decode cX8_says 170 = .ok (.isub, 1) := by decide +kernel
theorem dX8_says_171 : decode cX8_says 171 = .ok (.iload 4, 2) := by decide +kernel
theorem dX8_says_173 : decode cX8_says 173 = .ok (.aload_n 0, 1) := by decide +kernel
theorem dX8_says_174 : decode cX8_says 174 = .ok (.getfield 62, 3) := by decide +kernel
theorem dX8_says_177 : decode cX8_says 177 = .ok (.iload_n 2, 1) := by decide +kernel
theorem dX8_says_178 : decode cX8_says 178 = .ok (.iconst 1, 1) := by decide +kernel
theorem dX8_says_179 : decode cX8_says 179 = .ok (.isub, 1) := by decide +kernel
theorem dX8_says_180 : decode cX8_says 180 = .ok (.iaload, 1) := by decide +kernel
theorem dX8_says_181 : decode cX8_says 181 = .ok (.aload_n 0, 1) := by decide +kernel
theorem dX8_says_182 : decode cX8_says 182 = .ok (.getfield 62, 3) := by decide +kernel
theorem dX8_says_185 : decode cX8_says 185 = .ok (.iload_n 2, 1) := by decide +kernel
theorem dX8_says_186 : decode cX8_says 186 = .ok (.iaload, 1) := by decide +kernel
theorem dX8_says_187 : decode cX8_says 187 = .ok (.invokestatic 195, 3) := by decide +kernel
theorem dX8_says_190 : decode cX8_says 190 = .ok (.iastore, 1) := by decide +kernel
theorem dX8_says_191 : decode cX8_says 191 = .ok (.iinc 3 1, 3) := by decide +kernel
theorem dX8_says_194 : decode cX8_says 194 = .ok (.goto (-178), 3) := by decide +kernel
theorem dX8_says_197 : decode cX8_says 197 = .ok (.aload_n 0, 1) := by decide +kernel
theorem dX8_says_198 : decode cX8_says 198 = .ok (.getfield 62, 3) := by decide +kernel
theorem dX8_says_201 : decode cX8_says 201 = .ok (.iconst 0, 1) := by decide +kernel
theorem dX8_says_202 : decode cX8_says 202 = .ok (.iaload, 1) := by decide +kernel
theorem dX8_says_203 : decode cX8_says 203 = .ok (.ireturn, 1) := by decide +kernel
theorem dX8_force_0 : decode cX8_force 0 = .ok (.iload_n 1, 1) := by decide +kernel
theorem dX8_force_1 : decode cX8_force 1 = .ok (.iconst 0, 1) := by decide +kernel
theorem dX8_force_2 : decode cX8_force 2 = .ok (.aload_n 0, 1) := by decide +kernel
theorem dX8_force_3 : decode cX8_force 3 = .ok (.getfield 113, 3) := by decide +kernel
theorem dX8_force_6 : decode cX8_force 6 = .ok (.iconst 1, 1) := by decide +kernel
theorem dX8_force_7 : decode cX8_force 7 = .ok (.isub, 1) := by decide +kernel
theorem dX8_force_8 : decode cX8_force 8 = .ok (.invokestatic 90, 3) := by decide +kernel
theorem dX8_force_11 : decode cX8_force 11 = .ok (.ifCond .ne 6, 3) := by decide +kernel
theorem dX8_force_14 : decode cX8_force 14 = .ok (.bipush (-2), 2) := by decide +kernel
theorem dX8_force_16 : decode cX8_force 16 = .ok (.ireturn, 1) := by decide +kernel
theorem dX8_force_17 : decode cX8_force 17 = .ok (.aload_n 0, 1) := by decide +kernel
theorem dX8_force_18 : decode cX8_force 18 = .ok (.getfield 116, 3) := by decide +kernel
theorem dX8_force_21 : decode cX8_force 21 = .ok (.istore_n 2, 1) := by decide +kernel
theorem dX8_force_22 : decode cX8_force 22 = .ok (.aload_n 0, 1) := by decide +kernel
theorem dX8_force_23 : decode cX8_force 23 = .ok (.iload_n 1, 1) := by decide +kernel
theorem dX8_force_24 : decode cX8_force 24 = .ok (.putfield 116, 3) := by decide +kernel
theorem dX8_force_27 : decode cX8_force 27 = .ok (.iload_n 2, 1) := by decide +kernel
theorem dX8_force_28 : decode cX8_force 28 = .ok (.ireturn, 1) := by decide +kernel
theorem dX8_asksOf_0 : decode cX8_asksOf 0 = .ok (.aload_n 0, 1) := by decide +kernel
theorem dX8_asksOf_1 : decode cX8_asksOf 1 = .ok (.getfield 65, 3) := by decide +kernel
theorem dX8_asksOf_4 : decode cX8_asksOf 4 = .ok (.iconst 0, 1) := by decide +kernel
theorem dX8_asksOf_5 : decode cX8_asksOf 5 = .ok (.aload_n 0, 1) := by decide +kernel
theorem dX8_asksOf_6 : decode cX8_asksOf 6 = .ok (.getfield 107, 3) := by decide +kernel
theorem dX8_asksOf_9 : decode cX8_asksOf 9 = .ok (.iastore, 1) := by decide +kernel
theorem dX8_asksOf_10 : decode cX8_asksOf 10 = .ok (.aload_n 0, 1) := by decide +kernel
theorem dX8_asksOf_11 : decode cX8_asksOf 11 = .ok (.getfield 65, 3) := by decide +kernel
theorem dX8_asksOf_14 : decode cX8_asksOf 14 = .ok (.iconst 1, 1) := by decide +kernel
theorem dX8_asksOf_15 : decode cX8_asksOf 15 = .ok (.aload_n 0, 1) := by decide +kernel
theorem dX8_asksOf_16 : decode cX8_asksOf 16 = .ok (.getfield 13, 3) := by decide +kernel
theorem dX8_asksOf_19 : decode cX8_asksOf 19 = .ok (.iload_n 2, 1) := by decide +kernel
theorem dX8_asksOf_20 : decode cX8_asksOf 20 = .ok (.iaload, 1) := by decide +kernel
theorem dX8_asksOf_21 : decode cX8_asksOf 21 = .ok (.iastore, 1) := by decide +kernel
theorem dX8_asksOf_22 : decode cX8_asksOf 22 = .ok (.aload_n 0, 1) := by decide +kernel
theorem dX8_asksOf_23 : decode cX8_asksOf 23 = .ok (.getfield 65, 3) := by decide +kernel
theorem dX8_asksOf_26 : decode cX8_asksOf 26 = .ok (.iconst 2, 1) := by decide +kernel
theorem dX8_asksOf_27 : decode cX8_asksOf 27 = .ok (.aload_n 0, 1) := by decide +kernel
theorem dX8_asksOf_28 : decode cX8_asksOf 28 = .ok (.getfield 16, 3) := by decide +kernel
theorem dX8_asksOf_31 : decode cX8_asksOf 31 = .ok (.iconst 3, 1) := by decide +kernel
theorem dX8_asksOf_32 : decode cX8_asksOf 32 = .ok (.iload_n 2, 1) := by decide +kernel
theorem dX8_asksOf_33 : decode cX8_asksOf 33 = .ok (.imul, 1) := by decide +kernel
theorem dX8_asksOf_34 : decode cX8_asksOf 34 = .ok (.iaload, 1) := by decide +kernel
theorem dX8_asksOf_35 : decode cX8_asksOf 35 = .ok (.iastore, 1) := by decide +kernel
theorem dX8_asksOf_36 : decode cX8_asksOf 36 = .ok (.aload_n 0, 1) := by decide +kernel
theorem dX8_asksOf_37 : decode cX8_asksOf 37 = .ok (.getfield 65, 3) := by decide +kernel
theorem dX8_asksOf_40 : decode cX8_asksOf 40 = .ok (.iconst 3, 1) := by decide +kernel
theorem dX8_asksOf_41 : decode cX8_asksOf 41 = .ok (.iload_n 2, 1) := by decide +kernel
theorem dX8_asksOf_42 : decode cX8_asksOf 42 = .ok (.iastore, 1) := by decide +kernel
theorem dX8_asksOf_43 : decode cX8_asksOf 43 = .ok (.aload_n 0, 1) := by decide +kernel
theorem dX8_asksOf_44 : decode cX8_asksOf 44 = .ok (.getfield 65, 3) := by decide +kernel
theorem dX8_asksOf_47 : decode cX8_asksOf 47 = .ok (.iconst 4, 1) := by decide +kernel
theorem dX8_asksOf_48 : decode cX8_asksOf 48 = .ok (.iload_n 3, 1) := by decide +kernel
theorem dX8_asksOf_49 : decode cX8_asksOf 49 = .ok (.iastore, 1) := by decide +kernel
theorem dX8_asksOf_50 : decode cX8_asksOf 50 = .ok (.aload_n 0, 1) := by decide +kernel
theorem dX8_asksOf_51 : decode cX8_asksOf 51 = .ok (.getfield 65, 3) := by decide +kernel
theorem dX8_asksOf_54 : decode cX8_asksOf 54 = .ok (.iconst 5, 1) := by decide +kernel
theorem dX8_asksOf_55 : decode cX8_asksOf 55 = .ok (.iload 4, 2) := by decide +kernel
theorem dX8_asksOf_57 : decode cX8_asksOf 57 = .ok (.iastore, 1) := by decide +kernel
theorem dX8_asksOf_58 : decode cX8_asksOf 58 = .ok (.aload_n 0, 1) := by decide +kernel
theorem dX8_asksOf_59 : decode cX8_asksOf 59 = .ok (.iload_n 1, 1) := by decide +kernel
theorem dX8_asksOf_60 : decode cX8_asksOf 60 = .ok (.invokevirtual 198, 3) := by decide +kernel
theorem dX8_asksOf_63 : decode cX8_asksOf 63 = .ok (.istore 5, 2) := by decide +kernel
theorem dX8_asksOf_65 : decode cX8_asksOf 65 = .ok (.iload_n 1, 1) := by decide +kernel
theorem dX8_asksOf_66 : decode cX8_asksOf 66 = .ok (.iconst 1, 1) := by decide +kernel
theorem dX8_asksOf_67 : decode cX8_asksOf 67 = .ok (.if_icmp .ne 16, 3) := by decide +kernel
theorem dX8_asksOf_70 : decode cX8_asksOf 70 = .ok (.iload 5, 2) := by decide +kernel
theorem dX8_asksOf_72 : decode cX8_asksOf 72 = .ok (.ifCond .ne 7, 3) := by decide +kernel
theorem dX8_asksOf_75 : decode cX8_asksOf 75 = .ok (.iconst 0, 1) := by decide +kernel
theorem dX8_asksOf_76 : decode cX8_asksOf 76 = .ok (.goto 15, 3) := by decide +kernel
theorem dX8_asksOf_79 : decode cX8_asksOf 79 = .ok (.iconst 1, 1) := by decide +kernel
theorem dX8_asksOf_80 : decode cX8_asksOf 80 = .ok (.goto 11, 3) := by decide +kernel
theorem dX8_asksOf_83 : decode cX8_asksOf 83 = .ok (.iload 5, 2) := by decide +kernel
theorem dX8_asksOf_85 : decode cX8_asksOf 85 = .ok (.iconst 0, 1) := by decide +kernel
theorem dX8_asksOf_86 : decode cX8_asksOf 86 = .ok (.bipush 99, 2) := by decide +kernel
theorem dX8_asksOf_88 : decode cX8_asksOf 88 = .ok (.invokestatic 122, 3) := by decide +kernel
theorem dX8_asksOf_91 : decode cX8_asksOf 91 = .ok (.ireturn, 1) := by decide +kernel
theorem dX8_asks_0 : decode cX8_asks 0 = .ok (.iload_n 1, 1) := by decide +kernel
theorem dX8_asks_1 : decode cX8_asks 1 = .ok (.iconst 0, 1) := by decide +kernel
theorem dX8_asks_2 : decode cX8_asks 2 = .ok (.iconst 2, 1) := by decide +kernel
theorem dX8_asks_3 : decode cX8_asks 3 = .ok (.invokestatic 90, 3) := by decide +kernel
theorem dX8_asks_6 : decode cX8_asks 6 = .ok (.ifCond .eq 45, 3) := by decide +kernel
theorem dX8_asks_9 : decode cX8_asks 9 = .ok (.aload_n 0, 1) := by decide +kernel
theorem dX8_asks_10 : decode cX8_asks 10 = .ok (.iload_n 2, 1) := by decide +kernel
theorem dX8_asks_11 : decode cX8_asks 11 = .ok (.invokevirtual 201, 3) := by decide +kernel
theorem dX8_asks_14 : decode cX8_asks 14 = .ok (.ifCond .eq 37, 3) := by decide +kernel
theorem dX8_asks_17 : decode cX8_asks 17 = .ok (.iload_n 3, 1) := by decide +kernel
theorem dX8_asks_18 : decode cX8_asks 18 = .ok (.iconst 0, 1) := by decide +kernel
theorem dX8_asks_19 : decode cX8_asks 19 = .ok (.bipush 12, 2) := by decide +kernel
theorem dX8_asks_21 : decode cX8_asks 21 = .ok (.invokestatic 90, 3) := by decide +kernel
theorem dX8_asks_24 : decode cX8_asks 24 = .ok (.ifCond .eq 27, 3) := by decide +kernel
theorem dX8_asks_27 : decode cX8_asks 27 = .ok (.iload 4, 2) := by decide +kernel
theorem dX8_asks_29 : decode cX8_asks 29 = .ok (.iconst 0, 1) := by decide +kernel
theorem dX8_asks_30 : decode cX8_asks 30 = .ok (.sipush 999, 3) := by decide +kernel
theorem dX8_asks_33 : decode cX8_asks 33 = .ok (.invokestatic 90, 3) := by decide +kernel
theorem dX8_asks_36 : decode cX8_asks 36 = .ok (.ifCond .eq 15, 3) := by decide +kernel
theorem dX8_asks_39 : decode cX8_asks 39 = .ok (.aload_n 0, 1) := by decide +kernel
theorem dX8_asks_40 : decode cX8_asks 40 = .ok (.iload_n 1, 1) := by decide +kernel
theorem dX8_asks_41 : decode cX8_asks 41 = .ok (.iload_n 2, 1) := by decide +kernel
theorem dX8_asks_42 : decode cX8_asks 42 = .ok (.iload_n 3, 1) := by decide +kernel
theorem dX8_asks_43 : decode cX8_asks 43 = .ok (.iload 4, 2) := by decide +kernel
theorem dX8_asks_45 : decode cX8_asks 45 = .ok (.invokevirtual 204, 3) := by decide +kernel
theorem dX8_asks_48 : decode cX8_asks 48 = .ok (.goto 5, 3) := by decide +kernel
theorem dX8_asks_51 : decode cX8_asks 51 = .ok (.bipush (-2), 2) := by decide +kernel
theorem dX8_asks_53 : decode cX8_asks 53 = .ok (.ireturn, 1) := by decide +kernel
theorem dX8_word_0 : decode cX8_word 0 = .ok (.iload_n 1, 1) := by decide +kernel
theorem dX8_word_1 : decode cX8_word 1 = .ok (.iconst 0, 1) := by decide +kernel
theorem dX8_word_2 : decode cX8_word 2 = .ok (.bipush 59, 2) := by decide +kernel
theorem dX8_word_4 : decode cX8_word 4 = .ok (.invokestatic 90, 3) := by decide +kernel
theorem dX8_word_7 : decode cX8_word 7 = .ok (.ifCond .eq 23, 3) := by decide +kernel
theorem dX8_word_10 : decode cX8_word 10 = .ok (.iload_n 2, 1) := by decide +kernel
theorem dX8_word_11 : decode cX8_word 11 = .ok (.iconst 1, 1) := by decide +kernel
theorem dX8_word_12 : decode cX8_word 12 = .ok (.bipush 60, 2) := by decide +kernel
theorem dX8_word_14 : decode cX8_word 14 = .ok (.invokestatic 90, 3) := by decide +kernel
theorem dX8_word_17 : decode cX8_word 17 = .ok (.ifCond .eq 13, 3) := by decide +kernel
theorem dX8_word_20 : decode cX8_word 20 = .ok (.iload_n 3, 1) := by decide +kernel
theorem dX8_word_21 : decode cX8_word 21 = .ok (.iconst (-1), 1) := by decide +kernel
theorem dX8_word_22 : decode cX8_word 22 = .ok (.bipush 11, 2) := by decide +kernel
theorem dX8_word_24 : decode cX8_word 24 = .ok (.invokestatic 90, 3) := by decide +kernel
theorem dX8_word_27 : decode cX8_word 27 = .ok (.ifCond .ne 6, 3) := by decide +kernel
theorem dX8_word_30 : decode cX8_word 30 = .ok (.bipush (-2), 2) := by decide +kernel
theorem dX8_word_32 : decode cX8_word 32 = .ok (.ireturn, 1) := by decide +kernel
theorem dX8_word_33 : decode cX8_word 33 = .ok (.aload_n 0, 1) := by decide +kernel
theorem dX8_word_34 : decode cX8_word 34 = .ok (.getfield 87, 3) := by decide +kernel
theorem dX8_word_37 : decode cX8_word 37 = .ok (.bipush 12, 2) := by decide +kernel
theorem dX8_word_39 : decode cX8_word 39 = .ok (.if_icmp .ne 6, 3) := by decide +kernel
theorem dX8_word_42 : decode cX8_word 42 = .ok (.bipush (-4), 2) := by decide +kernel
theorem dX8_word_44 : decode cX8_word 44 = .ok (.ireturn, 1) := by decide +kernel
theorem dX8_word_45 : decode cX8_word 45 = .ok (.aload_n 0, 1) := by decide +kernel
theorem dX8_word_46 : decode cX8_word 46 = .ok (.getfield 7, 3) := by decide +kernel
theorem dX8_word_49 : decode cX8_word 49 = .ok (.aload_n 0, 1) := by decide +kernel
theorem dX8_word_50 : decode cX8_word 50 = .ok (.getfield 87, 3) := by decide +kernel
theorem dX8_word_53 : decode cX8_word 53 = .ok (.iload_n 1, 1) := by decide +kernel
theorem dX8_word_54 : decode cX8_word 54 = .ok (.bipush 10, 2) := by decide +kernel
theorem dX8_word_56 : decode cX8_word 56 = .ok (.idiv, 1) := by decide +kernel
theorem dX8_word_57 : decode cX8_word 57 = .ok (.iastore, 1) := by decide +kernel
theorem dX8_word_58 : decode cX8_word 58 = .ok (.aload_n 0, 1) := by decide +kernel
theorem dX8_word_59 : decode cX8_word 59 = .ok (.getfield 13, 3) := by decide +kernel
theorem dX8_word_62 : decode cX8_word 62 = .ok (.aload_n 0, 1) := by decide +kernel
theorem dX8_word_63 : decode cX8_word 63 = .ok (.getfield 87, 3) := by decide +kernel
theorem dX8_word_66 : decode cX8_word 66 = .ok (.iload_n 1, 1) := by decide +kernel
theorem dX8_word_67 : decode cX8_word 67 = .ok (.bipush 10, 2) := by decide +kernel
theorem dX8_word_69 : decode cX8_word 69 = .ok (.irem, 1) := by decide +kernel
theorem dX8_word_70 : decode cX8_word 70 = .ok (.iastore, 1) := by decide +kernel
theorem dX8_word_71 : decode cX8_word 71 = .ok (.aload_n 0, 1) := by decide +kernel
theorem dX8_word_72 : decode cX8_word 72 = .ok (.getfield 16, 3) := by decide +kernel
theorem dX8_word_75 : decode cX8_word 75 = .ok (.iconst 3, 1) := by decide +kernel
theorem dX8_word_76 : decode cX8_word 76 = .ok (.aload_n 0, 1) := by decide +kernel
theorem dX8_word_77 : decode cX8_word 77 = .ok (.getfield 87, 3) := by decide +kernel
theorem dX8_word_80 : decode cX8_word 80 = .ok (.imul, 1) := by decide +kernel
theorem dX8_word_81 : decode cX8_word 81 = .ok (.iload_n 2, 1) := by decide +kernel
theorem dX8_word_82 : decode cX8_word 82 = .ok (.iastore, 1) := by decide +kernel
theorem dX8_word_83 : decode cX8_word 83 = .ok (.aload_n 0, 1) := by decide +kernel
theorem dX8_word_84 : decode cX8_word 84 = .ok (.getfield 16, 3) := by decide +kernel
theorem dX8_word_87 : decode cX8_word 87 = .ok (.iconst 3, 1) := by decide +kernel
theorem dX8_word_88 : decode cX8_word 88 = .ok (.aload_n 0, 1) := by decide +kernel
theorem dX8_word_89 : decode cX8_word 89 = .ok (.getfield 87, 3) := by decide +kernel
theorem dX8_word_92 : decode cX8_word 92 = .ok (.imul, 1) := by decide +kernel
theorem dX8_word_93 : decode cX8_word 93 = .ok (.iconst 1, 1) := by decide +kernel
theorem dX8_word_94 : decode cX8_word 94 = .ok (.iadd, 1) := by decide +kernel
theorem dX8_word_95 : decode cX8_word 95 = .ok (.iload_n 3, 1) := by decide +kernel
theorem dX8_word_96 : decode cX8_word 96 = .ok (.iastore, 1) := by decide +kernel
theorem dX8_word_97 : decode cX8_word 97 = .ok (.aload_n 0, 1) := by decide +kernel
theorem dX8_word_98 : decode cX8_word 98 = .ok (.getfield 16, 3) := by decide +kernel
theorem dX8_word_101 : decode cX8_word 101 = .ok (.iconst 3, 1) := by decide +kernel
theorem dX8_word_102 : decode cX8_word 102 = .ok (.aload_n 0, 1) := by decide +kernel
theorem dX8_word_103 : decode cX8_word 103 = .ok (.getfield 87, 3) := by decide +kernel
theorem dX8_word_106 : decode cX8_word 106 = .ok (.imul, 1) := by decide +kernel
theorem dX8_word_107 : decode cX8_word 107 = .ok (.iconst 2, 1) := by decide +kernel
theorem dX8_word_108 : decode cX8_word 108 = .ok (.iadd, 1) := by decide +kernel
theorem dX8_word_109 : decode cX8_word 109 = .ok (.iconst (-1), 1) := by decide +kernel
theorem dX8_word_110 : decode cX8_word 110 = .ok (.iastore, 1) := by decide +kernel
theorem dX8_word_111 : decode cX8_word 111 = .ok (.aload_n 0, 1) := by decide +kernel
theorem dX8_word_112 : decode cX8_word 112 = .ok (.dup, 1) := by decide +kernel
theorem dX8_word_113 : decode cX8_word 113 = .ok (.getfield 87, 3) := by decide +kernel
theorem dX8_word_116 : decode cX8_word 116 = .ok (.iconst 1, 1) := by decide +kernel
theorem dX8_word_117 : decode cX8_word 117 = .ok (.iadd, 1) := by decide +kernel
theorem dX8_word_118 : decode cX8_word 118 = .ok (.putfield 87, 3) := by decide +kernel
theorem dX8_word_121 : decode cX8_word 121 = .ok (.aload_n 0, 1) := by decide +kernel
theorem dX8_word_122 : decode cX8_word 122 = .ok (.getfield 87, 3) := by decide +kernel
theorem dX8_word_125 : decode cX8_word 125 = .ok (.iconst 1, 1) := by decide +kernel
theorem dX8_word_126 : decode cX8_word 126 = .ok (.isub, 1) := by decide +kernel
theorem dX8_word_127 : decode cX8_word 127 = .ok (.ireturn, 1) := by decide +kernel
theorem dX8_needsOn_0 : decode cX8_needsOn 0 = .ok (.aload_n 0, 1) := by decide +kernel
theorem dX8_needsOn_1 : decode cX8_needsOn 1 = .ok (.getfield 7, 3) := by decide +kernel
theorem dX8_needsOn_4 : decode cX8_needsOn 4 = .ok (.iload_n 1, 1) := by decide +kernel
theorem dX8_needsOn_5 : decode cX8_needsOn 5 = .ok (.iaload, 1) := by decide +kernel
theorem dX8_needsOn_6 : decode cX8_needsOn 6 = .ok (.iconst 2, 1) := by decide +kernel
theorem dX8_needsOn_7 : decode cX8_needsOn 7 = .ok (.if_icmp .eq 17, 3) := by decide +kernel
theorem dX8_needsOn_10 : decode cX8_needsOn 10 = .ok (.aload_n 0, 1) := by decide +kernel
theorem dX8_needsOn_11 : decode cX8_needsOn 11 = .ok (.getfield 7, 3) := by decide +kernel
theorem dX8_needsOn_14 : decode cX8_needsOn 14 = .ok (.iload_n 1, 1) := by decide +kernel
theorem dX8_needsOn_15 : decode cX8_needsOn 15 = .ok (.iaload, 1) := by decide +kernel
theorem dX8_needsOn_16 : decode cX8_needsOn 16 = .ok (.iconst 4, 1) := by decide +kernel
theorem dX8_needsOn_17 : decode cX8_needsOn 17 = .ok (.if_icmp .eq 7, 3) := by decide +kernel
theorem dX8_needsOn_20 : decode cX8_needsOn 20 = .ok (.iconst 1, 1) := by decide +kernel
theorem dX8_needsOn_21 : decode cX8_needsOn 21 = .ok (.goto 4, 3) := by decide +kernel
theorem dX8_needsOn_24 : decode cX8_needsOn 24 = .ok (.iconst 0, 1) := by decide +kernel
theorem dX8_needsOn_25 : decode cX8_needsOn 25 = .ok (.ireturn, 1) := by decide +kernel
theorem dX8_told_0 : decode cX8_told 0 = .ok (.aload_n 0, 1) := by decide +kernel
theorem dX8_told_1 : decode cX8_told 1 = .ok (.iload_n 1, 1) := by decide +kernel
theorem dX8_told_2 : decode cX8_told 2 = .ok (.invokevirtual 201, 3) := by decide +kernel
theorem dX8_told_5 : decode cX8_told 5 = .ok (.ifCond .ne 6, 3) := by decide +kernel
theorem dX8_told_8 : decode cX8_told 8 = .ok (.bipush (-5), 2) := by decide +kernel
theorem dX8_told_10 : decode cX8_told 10 = .ok (.ireturn, 1) := by decide +kernel
theorem dX8_told_11 : decode cX8_told 11 = .ok (.iload_n 2, 1) := by decide +kernel
theorem dX8_told_12 : decode cX8_told 12 = .ok (.tableswitch 101 0 7 #[48, 55, 62, 62, 62, 75, 81, 87], 48) := by decide +kernel
theorem dX8_told_60 : decode cX8_told 60 = .ok (.aload_n 0, 1) := by decide +kernel
theorem dX8_told_61 : decode cX8_told 61 = .ok (.getfield 7, 3) := by decide +kernel
theorem dX8_told_64 : decode cX8_told 64 = .ok (.iload_n 1, 1) := by decide +kernel
theorem dX8_told_65 : decode cX8_told 65 = .ok (.iaload, 1) := by decide +kernel
theorem dX8_told_66 : decode cX8_told 66 = .ok (.ireturn, 1) := by decide +kernel
theorem dX8_told_67 : decode cX8_told 67 = .ok (.aload_n 0, 1) := by decide +kernel
theorem dX8_told_68 : decode cX8_told 68 = .ok (.getfield 13, 3) := by decide +kernel
theorem dX8_told_71 : decode cX8_told 71 = .ok (.iload_n 1, 1) := by decide +kernel
theorem dX8_told_72 : decode cX8_told 72 = .ok (.iaload, 1) := by decide +kernel
theorem dX8_told_73 : decode cX8_told 73 = .ok (.ireturn, 1) := by decide +kernel
theorem dX8_told_74 : decode cX8_told 74 = .ok (.aload_n 0, 1) := by decide +kernel
theorem dX8_told_75 : decode cX8_told 75 = .ok (.getfield 16, 3) := by decide +kernel
theorem dX8_told_78 : decode cX8_told 78 = .ok (.iconst 3, 1) := by decide +kernel
theorem dX8_told_79 : decode cX8_told 79 = .ok (.iload_n 1, 1) := by decide +kernel
theorem dX8_told_80 : decode cX8_told 80 = .ok (.imul, 1) := by decide +kernel
theorem dX8_told_81 : decode cX8_told 81 = .ok (.iload_n 2, 1) := by decide +kernel
theorem dX8_told_82 : decode cX8_told 82 = .ok (.iadd, 1) := by decide +kernel
theorem dX8_told_83 : decode cX8_told 83 = .ok (.iconst 2, 1) := by decide +kernel
theorem dX8_told_84 : decode cX8_told 84 = .ok (.isub, 1) := by decide +kernel
theorem dX8_told_85 : decode cX8_told 85 = .ok (.iaload, 1) := by decide +kernel
theorem dX8_told_86 : decode cX8_told 86 = .ok (.ireturn, 1) := by decide +kernel
theorem dX8_told_87 : decode cX8_told 87 = .ok (.aload_n 0, 1) := by decide +kernel
theorem dX8_told_88 : decode cX8_told 88 = .ok (.iload_n 1, 1) := by decide +kernel
theorem dX8_told_89 : decode cX8_told 89 = .ok (.invokevirtual 97, 3) := by decide +kernel
theorem dX8_told_92 : decode cX8_told 92 = .ok (.ireturn, 1) := by decide +kernel
theorem dX8_told_93 : decode cX8_told 93 = .ok (.aload_n 0, 1) := by decide +kernel
theorem dX8_told_94 : decode cX8_told 94 = .ok (.iload_n 1, 1) := by decide +kernel
theorem dX8_told_95 : decode cX8_told 95 = .ok (.invokevirtual 101, 3) := by decide +kernel
theorem dX8_told_98 : decode cX8_told 98 = .ok (.ireturn, 1) := by decide +kernel
theorem dX8_told_99 : decode cX8_told 99 = .ok (.aload_n 0, 1) := by decide +kernel
theorem dX8_told_100 : decode cX8_told 100 = .ok (.iload_n 1, 1) := by decide +kernel
theorem dX8_told_101 : decode cX8_told 101 = .ok (.invokevirtual 208, 3) := by decide +kernel
theorem dX8_told_104 : decode cX8_told 104 = .ok (.ifCond .eq 7, 3) := by decide +kernel
theorem dX8_told_107 : decode cX8_told 107 = .ok (.iconst 1, 1) := by decide +kernel
theorem dX8_told_108 : decode cX8_told 108 = .ok (.goto 4, 3) := by decide +kernel
theorem dX8_told_111 : decode cX8_told 111 = .ok (.iconst 0, 1) := by decide +kernel
theorem dX8_told_112 : decode cX8_told 112 = .ok (.ireturn, 1) := by decide +kernel
theorem dX8_told_113 : decode cX8_told 113 = .ok (.bipush (-7), 2) := by decide +kernel
theorem dX8_told_115 : decode cX8_told 115 = .ok (.ireturn, 1) := by decide +kernel
theorem dX8_put_0 : decode cX8_put 0 = .ok (.aload_n 0, 1) := by decide +kernel
theorem dX8_put_1 : decode cX8_put 1 = .ok (.iload_n 1, 1) := by decide +kernel
theorem dX8_put_2 : decode cX8_put 2 = .ok (.invokevirtual 201, 3) := by decide +kernel
theorem dX8_put_5 : decode cX8_put 5 = .ok (.ifCond .ne 6, 3) := by decide +kernel
theorem dX8_put_8 : decode cX8_put 8 = .ok (.bipush (-5), 2) := by decide +kernel
theorem dX8_put_10 : decode cX8_put 10 = .ok (.ireturn, 1) := by decide +kernel
theorem dX8_put_11 : decode cX8_put 11 = .ok (.iload_n 2, 1) := by decide +kernel
theorem dX8_put_12 : decode cX8_put 12 = .ok (.iconst 0, 1) := by decide +kernel
theorem dX8_put_13 : decode cX8_put 13 = .ok (.iconst 1, 1) := by decide +kernel
theorem dX8_put_14 : decode cX8_put 14 = .ok (.invokestatic 90, 3) := by decide +kernel
theorem dX8_put_17 : decode cX8_put 17 = .ok (.ifCond .eq 30, 3) := by decide +kernel
theorem dX8_put_20 : decode cX8_put 20 = .ok (.iload_n 3, 1) := by decide +kernel
theorem dX8_put_21 : decode cX8_put 21 = .ok (.iload_n 2, 1) := by decide +kernel
theorem dX8_put_22 : decode cX8_put 22 = .ok (.ifCond .ne 7, 3) := by decide +kernel
theorem dX8_put_25 : decode cX8_put 25 = .ok (.iconst 1, 1) := by decide +kernel
theorem dX8_put_26 : decode cX8_put 26 = .ok (.goto 4, 3) := by decide +kernel
theorem dX8_put_29 : decode cX8_put 29 = .ok (.iconst (-1), 1) := by decide +kernel
theorem dX8_put_30 : decode cX8_put 30 = .ok (.iload_n 2, 1) := by decide +kernel
theorem dX8_put_31 : decode cX8_put 31 = .ok (.ifCond .ne 8, 3) := by decide +kernel
theorem dX8_put_34 : decode cX8_put 34 = .ok (.bipush 60, 2) := by decide +kernel
theorem dX8_put_36 : decode cX8_put 36 = .ok (.goto 5, 3) := by decide +kernel
theorem dX8_put_39 : decode cX8_put 39 = .ok (.bipush 11, 2) := by decide +kernel
theorem dX8_put_41 : decode cX8_put 41 = .ok (.invokestatic 90, 3) := by decide +kernel
theorem dX8_put_44 : decode cX8_put 44 = .ok (.ifCond .ne 6, 3) := by decide +kernel
theorem dX8_put_47 : decode cX8_put 47 = .ok (.bipush (-7), 2) := by decide +kernel
theorem dX8_put_49 : decode cX8_put 49 = .ok (.ireturn, 1) := by decide +kernel
theorem dX8_put_50 : decode cX8_put 50 = .ok (.aload_n 0, 1) := by decide +kernel
theorem dX8_put_51 : decode cX8_put 51 = .ok (.getfield 16, 3) := by decide +kernel
theorem dX8_put_54 : decode cX8_put 54 = .ok (.iconst 3, 1) := by decide +kernel
theorem dX8_put_55 : decode cX8_put 55 = .ok (.iload_n 1, 1) := by decide +kernel
theorem dX8_put_56 : decode cX8_put 56 = .ok (.imul, 1) := by decide +kernel
theorem dX8_put_57 : decode cX8_put 57 = .ok (.iload_n 2, 1) := by decide +kernel
theorem dX8_put_58 : decode cX8_put 58 = .ok (.iadd, 1) := by decide +kernel
theorem dX8_put_59 : decode cX8_put 59 = .ok (.iaload, 1) := by decide +kernel
theorem dX8_put_60 : decode cX8_put 60 = .ok (.istore 4, 2) := by decide +kernel
theorem dX8_put_62 : decode cX8_put 62 = .ok (.aload_n 0, 1) := by decide +kernel
theorem dX8_put_63 : decode cX8_put 63 = .ok (.getfield 16, 3) := by decide +kernel
theorem dX8_put_66 : decode cX8_put 66 = .ok (.iconst 3, 1) := by decide +kernel
theorem dX8_put_67 : decode cX8_put 67 = .ok (.iload_n 1, 1) := by decide +kernel
theorem dX8_put_68 : decode cX8_put 68 = .ok (.imul, 1) := by decide +kernel
theorem dX8_put_69 : decode cX8_put 69 = .ok (.iload_n 2, 1) := by decide +kernel
theorem dX8_put_70 : decode cX8_put 70 = .ok (.iadd, 1) := by decide +kernel
theorem dX8_put_71 : decode cX8_put 71 = .ok (.iload_n 3, 1) := by decide +kernel
theorem dX8_put_72 : decode cX8_put 72 = .ok (.iastore, 1) := by decide +kernel
theorem dX8_put_73 : decode cX8_put 73 = .ok (.iload 4, 2) := by decide +kernel
theorem dX8_put_75 : decode cX8_put 75 = .ok (.ireturn, 1) := by decide +kernel
theorem dX8_behindOf_0 : decode cX8_behindOf 0 = .ok (.aload_n 0, 1) := by decide +kernel
theorem dX8_behindOf_1 : decode cX8_behindOf 1 = .ok (.getfield 16, 3) := by decide +kernel
theorem dX8_behindOf_4 : decode cX8_behindOf 4 = .ok (.iconst 3, 1) := by decide +kernel
theorem dX8_behindOf_5 : decode cX8_behindOf 5 = .ok (.iload_n 1, 1) := by decide +kernel
theorem dX8_behindOf_6 : decode cX8_behindOf 6 = .ok (.imul, 1) := by decide +kernel
theorem dX8_behindOf_7 : decode cX8_behindOf 7 = .ok (.iconst 2, 1) := by decide +kernel
theorem dX8_behindOf_8 : decode cX8_behindOf 8 = .ok (.iadd, 1) := by decide +kernel
theorem dX8_behindOf_9 : decode cX8_behindOf 9 = .ok (.iaload, 1) := by decide +kernel
theorem dX8_behindOf_10 : decode cX8_behindOf 10 = .ok (.istore_n 2, 1) := by decide +kernel
theorem dX8_behindOf_11 : decode cX8_behindOf 11 = .ok (.iload_n 2, 1) := by decide +kernel
theorem dX8_behindOf_12 : decode cX8_behindOf 12 = .ok (.iconst (-1), 1) := by decide +kernel
theorem dX8_behindOf_13 : decode cX8_behindOf 13 = .ok (.if_icmp .ne 9, 3) := by decide +kernel
theorem dX8_behindOf_16 : decode cX8_behindOf 16 = .ok (.sipush 999, 3) := by decide +kernel
theorem dX8_behindOf_19 : decode cX8_behindOf 19 = .ok (.goto 15, 3) := by decide +kernel
theorem dX8_behindOf_22 : decode cX8_behindOf 22 = .ok (.aload_n 0, 1) := by decide +kernel
theorem dX8_behindOf_23 : decode cX8_behindOf 23 = .ok (.getfield 107, 3) := by decide +kernel
theorem dX8_behindOf_26 : decode cX8_behindOf 26 = .ok (.iload_n 2, 1) := by decide +kernel
theorem dX8_behindOf_27 : decode cX8_behindOf 27 = .ok (.isub, 1) := by decide +kernel
theorem dX8_behindOf_28 : decode cX8_behindOf 28 = .ok (.iconst 0, 1) := by decide +kernel
theorem dX8_behindOf_29 : decode cX8_behindOf 29 = .ok (.ldc 211, 2) := by decide +kernel
theorem dX8_behindOf_31 : decode cX8_behindOf 31 = .ok (.invokestatic 122, 3) := by decide +kernel
theorem dX8_behindOf_34 : decode cX8_behindOf 34 = .ok (.ireturn, 1) := by decide +kernel
theorem dX8_holdsItself_0 : decode cX8_holdsItself 0 = .ok (.aload_n 0, 1) := by decide +kernel
theorem dX8_holdsItself_1 : decode cX8_holdsItself 1 = .ok (.iload_n 1, 1) := by decide +kernel
theorem dX8_holdsItself_2 : decode cX8_holdsItself 2 = .ok (.invokevirtual 212, 3) := by decide +kernel
theorem dX8_holdsItself_5 : decode cX8_holdsItself 5 = .ok (.istore_n 2, 1) := by decide +kernel
theorem dX8_holdsItself_6 : decode cX8_holdsItself 6 = .ok (.aload_n 0, 1) := by decide +kernel
theorem dX8_holdsItself_7 : decode cX8_holdsItself 7 = .ok (.getfield 13, 3) := by decide +kernel
theorem dX8_holdsItself_10 : decode cX8_holdsItself 10 = .ok (.iload_n 1, 1) := by decide +kernel
theorem dX8_holdsItself_11 : decode cX8_holdsItself 11 = .ok (.iaload, 1) := by decide +kernel
theorem dX8_holdsItself_12 : decode cX8_holdsItself 12 = .ok (.istore_n 3, 1) := by decide +kernel
theorem dX8_holdsItself_13 : decode cX8_holdsItself 13 = .ok (.aload_n 0, 1) := by decide +kernel
theorem dX8_holdsItself_14 : decode cX8_holdsItself 14 = .ok (.iconst 1, 1) := by decide +kernel
theorem dX8_holdsItself_15 : decode cX8_holdsItself 15 = .ok (.iload_n 1, 1) := by decide +kernel
theorem dX8_holdsItself_16 : decode cX8_holdsItself 16 = .ok (.aload_n 0, 1) := by decide +kernel
theorem dX8_holdsItself_17 : decode cX8_holdsItself 17 = .ok (.getfield 215, 3) := by decide +kernel
theorem dX8_holdsItself_20 : decode cX8_holdsItself 20 = .ok (.invokestatic 218, 3) := by decide +kernel
theorem dX8_holdsItself_23 : decode cX8_holdsItself 23 = .ok (.iload_n 2, 1) := by decide +kernel
theorem dX8_holdsItself_24 : decode cX8_holdsItself 24 = .ok (.invokevirtual 204, 3) := by decide +kernel
theorem dX8_holdsItself_27 : decode cX8_holdsItself 27 = .ok (.iconst 1, 1) := by decide +kernel
theorem dX8_holdsItself_28 : decode cX8_holdsItself 28 = .ok (.if_icmp .ne 7, 3) := by decide +kernel
theorem dX8_holdsItself_31 : decode cX8_holdsItself 31 = .ok (.iconst 1, 1) := by decide +kernel
theorem dX8_holdsItself_32 : decode cX8_holdsItself 32 = .ok (.goto 4, 3) := by decide +kernel
theorem dX8_holdsItself_35 : decode cX8_holdsItself 35 = .ok (.iconst 0, 1) := by decide +kernel
theorem dX8_holdsItself_36 : decode cX8_holdsItself 36 = .ok (.istore 4, 2) := by decide +kernel
theorem dX8_holdsItself_38 : decode cX8_holdsItself 38 = .ok (.iload 4, 2) := by decide +kernel
theorem dX8_holdsItself_40 : decode cX8_holdsItself 40 = .ok (.ifCond .eq 24, 3) := by decide +kernel
theorem dX8_holdsItself_43 : decode cX8_holdsItself 43 = .ok (.aload_n 0, 1) := by decide +kernel
theorem dX8_holdsItself_44 : decode cX8_holdsItself 44 = .ok (.getfield 16, 3) := by decide +kernel
theorem dX8_holdsItself_47 : decode cX8_holdsItself 47 = .ok (.iconst 3, 1) := by decide +kernel
theorem dX8_holdsItself_48 : decode cX8_holdsItself 48 = .ok (.iload_n 1, 1) := by decide +kernel
theorem dX8_holdsItself_49 : decode cX8_holdsItself 49 = .ok (.imul, 1) := by decide +kernel
theorem dX8_holdsItself_50 : decode cX8_holdsItself 50 = .ok (.iconst 2, 1) := by decide +kernel
theorem dX8_holdsItself_51 : decode cX8_holdsItself 51 = .ok (.iadd, 1) := by decide +kernel
theorem dX8_holdsItself_52 : decode cX8_holdsItself 52 = .ok (.iaload, 1) := by decide +kernel
theorem dX8_holdsItself_53 : decode cX8_holdsItself 53 = .ok (.aload_n 0, 1) := by decide +kernel
theorem dX8_holdsItself_54 : decode cX8_holdsItself 54 = .ok (.getfield 107, 3) := by decide +kernel
theorem dX8_holdsItself_57 : decode cX8_holdsItself 57 = .ok (.if_icmp .ne 7, 3) := by decide +kernel
theorem dX8_holdsItself_60 : decode cX8_holdsItself 60 = .ok (.iconst 1, 1) := by decide +kernel
theorem dX8_holdsItself_61 : decode cX8_holdsItself 61 = .ok (.goto 4, 3) := by decide +kernel
theorem dX8_holdsItself_64 : decode cX8_holdsItself 64 = .ok (.iconst 0, 1) := by decide +kernel
theorem dX8_holdsItself_65 : decode cX8_holdsItself 65 = .ok (.istore 5, 2) := by decide +kernel
theorem dX8_holdsItself_67 : decode cX8_holdsItself 67 = .ok (.iload 5, 2) := by decide +kernel
theorem dX8_holdsItself_69 : decode cX8_holdsItself 69 = .ok (.ifCond .ne 13, 3) := by decide +kernel
theorem dX8_holdsItself_72 : decode cX8_holdsItself 72 = .ok (.iload 4, 2) := by decide +kernel
theorem dX8_holdsItself_74 : decode cX8_holdsItself 74 = .ok (.ifCond .eq 12, 3) := by decide +kernel
theorem dX8_holdsItself_77 : decode cX8_holdsItself 77 = .ok (.iload_n 2, 1) := by decide +kernel
theorem dX8_holdsItself_78 : decode cX8_holdsItself 78 = .ok (.iload_n 3, 1) := by decide +kernel
theorem dX8_holdsItself_79 : decode cX8_holdsItself 79 = .ok (.if_icmp .gt 7, 3) := by decide +kernel
theorem dX8_holdsItself_82 : decode cX8_holdsItself 82 = .ok (.iconst 1, 1) := by decide +kernel
theorem dX8_holdsItself_83 : decode cX8_holdsItself 83 = .ok (.goto 4, 3) := by decide +kernel
theorem dX8_holdsItself_86 : decode cX8_holdsItself 86 = .ok (.iconst 0, 1) := by decide +kernel
theorem dX8_holdsItself_87 : decode cX8_holdsItself 87 = .ok (.istore 6, 2) := by decide +kernel
theorem dX8_holdsItself_89 : decode cX8_holdsItself 89 = .ok (.aload_n 0, 1) := by decide +kernel
theorem dX8_holdsItself_90 : decode cX8_holdsItself 90 = .ok (.getfield 107, 3) := by decide +kernel
theorem dX8_holdsItself_93 : decode cX8_holdsItself 93 = .ok (.bipush 10, 2) := by decide +kernel
theorem dX8_holdsItself_95 : decode cX8_holdsItself 95 = .ok (.irem, 1) := by decide +kernel
theorem dX8_holdsItself_96 : decode cX8_holdsItself 96 = .ok (.istore 7, 2) := by decide +kernel
theorem dX8_holdsItself_98 : decode cX8_holdsItself 98 = .ok (.aload_n 0, 1) := by decide +kernel
theorem dX8_holdsItself_99 : decode cX8_holdsItself 99 = .ok (.getfield 7, 3) := by decide +kernel
theorem dX8_holdsItself_102 : decode cX8_holdsItself 102 = .ok (.iload_n 1, 1) := by decide +kernel
theorem dX8_holdsItself_103 : decode cX8_holdsItself 103 = .ok (.iaload, 1) := by decide +kernel
theorem dX8_holdsItself_104 : decode cX8_holdsItself 104 = .ok (.tableswitch 100 1 5 #[36, 100, 39, 64, 80], 36) := by decide +kernel
theorem dX8_holdsItself_140 : decode cX8_holdsItself 140 = .ok (.iload 6, 2) := by decide +kernel
theorem dX8_holdsItself_142 : decode cX8_holdsItself 142 = .ok (.ireturn, 1) := by decide +kernel
theorem dX8_holdsItself_143 : decode cX8_holdsItself 143 = .ok (.iload 6, 2) := by decide +kernel
theorem dX8_holdsItself_145 : decode cX8_holdsItself 145 = .ok (.ifCond .eq 11, 3) := by decide +kernel
theorem dX8_holdsItself_148 : decode cX8_holdsItself 148 = .ok (.iload 7, 2) := by decide +kernel
theorem dX8_holdsItself_150 : decode cX8_holdsItself 150 = .ok (.iload_n 3, 1) := by decide +kernel
theorem dX8_holdsItself_151 : decode cX8_holdsItself 151 = .ok (.iconst 2, 1) := by decide +kernel
theorem dX8_holdsItself_152 : decode cX8_holdsItself 152 = .ok (.idiv, 1) := by decide +kernel
theorem dX8_holdsItself_153 : decode cX8_holdsItself 153 = .ok (.if_icmp .ge 9, 3) := by decide +kernel
theorem dX8_holdsItself_156 : decode cX8_holdsItself 156 = .ok (.iload 7, 2) := by decide +kernel
theorem dX8_holdsItself_158 : decode cX8_holdsItself 158 = .ok (.iload_n 3, 1) := by decide +kernel
theorem dX8_holdsItself_159 : decode cX8_holdsItself 159 = .ok (.if_icmp .ne 7, 3) := by decide +kernel
theorem dX8_holdsItself_162 : decode cX8_holdsItself 162 = .ok (.iconst 1, 1) := by decide +kernel
theorem dX8_holdsItself_163 : decode cX8_holdsItself 163 = .ok (.goto 4, 3) := by decide +kernel
theorem dX8_holdsItself_166 : decode cX8_holdsItself 166 = .ok (.iconst 0, 1) := by decide +kernel
theorem dX8_holdsItself_167 : decode cX8_holdsItself 167 = .ok (.ireturn, 1) := by decide +kernel
theorem dX8_holdsItself_168 : decode cX8_holdsItself 168 = .ok (.iload 5, 2) := by decide +kernel
theorem dX8_holdsItself_170 : decode cX8_holdsItself 170 = .ok (.ifCond .ne 8, 3) := by decide +kernel
theorem dX8_holdsItself_173 : decode cX8_holdsItself 173 = .ok (.iload_n 3, 1) := by decide +kernel
theorem dX8_holdsItself_174 : decode cX8_holdsItself 174 = .ok (.iconst 4, 1) := by decide +kernel
theorem dX8_holdsItself_175 : decode cX8_holdsItself 175 = .ok (.if_icmp .le 7, 3) := by decide +kernel
theorem dX8_holdsItself_178 : decode cX8_holdsItself 178 = .ok (.iconst 1, 1) := by decide +kernel
theorem dX8_holdsItself_179 : decode cX8_holdsItself 179 = .ok (.goto 4, 3) := by decide +kernel
theorem dX8_holdsItself_182 : decode cX8_holdsItself 182 = .ok (.iconst 0, 1) := by decide +kernel
theorem dX8_holdsItself_183 : decode cX8_holdsItself 183 = .ok (.ireturn, 1) := by decide +kernel
theorem dX8_holdsItself_184 : decode cX8_holdsItself 184 = .ok (.iload 5, 2) := by decide +kernel
theorem dX8_holdsItself_186 : decode cX8_holdsItself 186 = .ok (.ifCond .eq 16, 3) := by decide +kernel
theorem dX8_holdsItself_189 : decode cX8_holdsItself 189 = .ok (.iload_n 2, 1) := by decide +kernel
theorem dX8_holdsItself_190 : decode cX8_holdsItself 190 = .ok (.iconst 2, 1) := by decide +kernel
theorem dX8_holdsItself_191 : decode cX8_holdsItself 191 = .ok (.irem, 1) := by decide +kernel
theorem dX8_holdsItself_192 : decode cX8_holdsItself 192 = .ok (.iload_n 3, 1) := by decide +kernel
theorem dX8_holdsItself_193 : decode cX8_holdsItself 193 = .ok (.iconst 2, 1) := by decide +kernel
theorem dX8_holdsItself_194 : decode cX8_holdsItself 194 = .ok (.irem, 1) := by decide +kernel
theorem dX8_holdsItself_195 : decode cX8_holdsItself 195 = .ok (.if_icmp .ne 7, 3) := by decide +kernel
theorem dX8_holdsItself_198 : decode cX8_holdsItself 198 = .ok (.iconst 1, 1) := by decide +kernel
theorem dX8_holdsItself_199 : decode cX8_holdsItself 199 = .ok (.goto 4, 3) := by decide +kernel
theorem dX8_holdsItself_202 : decode cX8_holdsItself 202 = .ok (.iconst 0, 1) := by decide +kernel
theorem dX8_holdsItself_203 : decode cX8_holdsItself 203 = .ok (.ireturn, 1) := by decide +kernel
theorem dX8_holdsItself_204 : decode cX8_holdsItself 204 = .ok (.iload 5, 2) := by decide +kernel
theorem dX8_holdsItself_206 : decode cX8_holdsItself 206 = .ok (.ireturn, 1) := by decide +kernel
theorem dX8_chainOf_0 : decode cX8_chainOf 0 = .ok (.iconst 1, 1) := by decide +kernel
theorem dX8_chainOf_1 : decode cX8_chainOf 1 = .ok (.iload_n 1, 1) := by decide +kernel
theorem dX8_chainOf_2 : decode cX8_chainOf 2 = .ok (.ishl, 1) := by decide +kernel
theorem dX8_chainOf_3 : decode cX8_chainOf 3 = .ok (.istore_n 2, 1) := by decide +kernel
theorem dX8_chainOf_4 : decode cX8_chainOf 4 = .ok (.iload_n 1, 1) := by decide +kernel
theorem dX8_chainOf_5 : decode cX8_chainOf 5 = .ok (.istore_n 3, 1) := by decide +kernel
theorem dX8_chainOf_6 : decode cX8_chainOf 6 = .ok (.iconst 1, 1) := by decide +kernel
theorem dX8_chainOf_7 : decode cX8_chainOf 7 = .ok (.istore 4, 2) := by decide +kernel
theorem dX8_chainOf_9 : decode cX8_chainOf 9 = .ok (.iload 4, 2) := by decide +kernel
theorem dX8_chainOf_11 : decode cX8_chainOf 11 = .ok (.ifCond .eq 89, 3) := by decide +kernel
theorem dX8_chainOf_14 : decode cX8_chainOf 14 = .ok (.aload_n 0, 1) := by decide +kernel
theorem dX8_chainOf_15 : decode cX8_chainOf 15 = .ok (.iload_n 3, 1) := by decide +kernel
theorem dX8_chainOf_16 : decode cX8_chainOf 16 = .ok (.invokevirtual 208, 3) := by decide +kernel
theorem dX8_chainOf_19 : decode cX8_chainOf 19 = .ok (.ifCond .eq 16, 3) := by decide +kernel
theorem dX8_chainOf_22 : decode cX8_chainOf 22 = .ok (.aload_n 0, 1) := by decide +kernel
theorem dX8_chainOf_23 : decode cX8_chainOf 23 = .ok (.getfield 16, 3) := by decide +kernel
theorem dX8_chainOf_26 : decode cX8_chainOf 26 = .ok (.iconst 3, 1) := by decide +kernel
theorem dX8_chainOf_27 : decode cX8_chainOf 27 = .ok (.iload_n 3, 1) := by decide +kernel
theorem dX8_chainOf_28 : decode cX8_chainOf 28 = .ok (.imul, 1) := by decide +kernel
theorem dX8_chainOf_29 : decode cX8_chainOf 29 = .ok (.iconst 1, 1) := by decide +kernel
theorem dX8_chainOf_30 : decode cX8_chainOf 30 = .ok (.iadd, 1) := by decide +kernel
theorem dX8_chainOf_31 : decode cX8_chainOf 31 = .ok (.iaload, 1) := by decide +kernel
theorem dX8_chainOf_32 : decode cX8_chainOf 32 = .ok (.goto 4, 3) := by decide +kernel
theorem dX8_chainOf_35 : decode cX8_chainOf 35 = .ok (.iconst (-1), 1) := by decide +kernel
theorem dX8_chainOf_36 : decode cX8_chainOf 36 = .ok (.istore 5, 2) := by decide +kernel
theorem dX8_chainOf_38 : decode cX8_chainOf 38 = .ok (.aload_n 0, 1) := by decide +kernel
theorem dX8_chainOf_39 : decode cX8_chainOf 39 = .ok (.iload 5, 2) := by decide +kernel
theorem dX8_chainOf_41 : decode cX8_chainOf 41 = .ok (.invokevirtual 201, 3) := by decide +kernel
theorem dX8_chainOf_44 : decode cX8_chainOf 44 = .ok (.ifCond .eq 22, 3) := by decide +kernel
theorem dX8_chainOf_47 : decode cX8_chainOf 47 = .ok (.iload_n 2, 1) := by decide +kernel
theorem dX8_chainOf_48 : decode cX8_chainOf 48 = .ok (.iload 5, 2) := by decide +kernel
theorem dX8_chainOf_50 : decode cX8_chainOf 50 = .ok (.iconst 0, 1) := by decide +kernel
theorem dX8_chainOf_51 : decode cX8_chainOf 51 = .ok (.bipush 11, 2) := by decide +kernel
theorem dX8_chainOf_53 : decode cX8_chainOf 53 = .ok (.invokestatic 122, 3) := by decide +kernel
theorem dX8_chainOf_56 : decode cX8_chainOf 56 = .ok (.ishr, 1) := by decide +kernel
theorem dX8_chainOf_57 : decode cX8_chainOf 57 = .ok (.iconst 1, 1) := by decide +kernel
theorem dX8_chainOf_58 : decode cX8_chainOf 58 = .ok (.iand, 1) := by decide +kernel
theorem dX8_chainOf_59 : decode cX8_chainOf 59 = .ok (.ifCond .ne 7, 3) := by decide +kernel
theorem dX8_chainOf_62 : decode cX8_chainOf 62 = .ok (.iconst 1, 1) := by decide +kernel
theorem dX8_chainOf_63 : decode cX8_chainOf 63 = .ok (.goto 4, 3) := by decide +kernel
theorem dX8_chainOf_66 : decode cX8_chainOf 66 = .ok (.iconst 0, 1) := by decide +kernel
theorem dX8_chainOf_67 : decode cX8_chainOf 67 = .ok (.istore 4, 2) := by decide +kernel
theorem dX8_chainOf_69 : decode cX8_chainOf 69 = .ok (.iload_n 2, 1) := by decide +kernel
theorem dX8_chainOf_70 : decode cX8_chainOf 70 = .ok (.iload 4, 2) := by decide +kernel
theorem dX8_chainOf_72 : decode cX8_chainOf 72 = .ok (.ifCond .eq 10, 3) := by decide +kernel
theorem dX8_chainOf_75 : decode cX8_chainOf 75 = .ok (.iconst 1, 1) := by decide +kernel
theorem dX8_chainOf_76 : decode cX8_chainOf 76 = .ok (.iload 5, 2) := by decide +kernel
theorem dX8_chainOf_78 : decode cX8_chainOf 78 = .ok (.ishl, 1) := by decide +kernel
theorem dX8_chainOf_79 : decode cX8_chainOf 79 = .ok (.goto 4, 3) := by decide +kernel
theorem dX8_chainOf_82 : decode cX8_chainOf 82 = .ok (.iconst 0, 1) := by decide +kernel
theorem dX8_chainOf_83 : decode cX8_chainOf 83 = .ok (.ior, 1) := by decide +kernel
theorem dX8_chainOf_84 : decode cX8_chainOf 84 = .ok (.istore_n 2, 1) := by decide +kernel
theorem dX8_chainOf_85 : decode cX8_chainOf 85 = .ok (.iload 4, 2) := by decide +kernel
theorem dX8_chainOf_87 : decode cX8_chainOf 87 = .ok (.ifCond .eq 8, 3) := by decide +kernel
theorem dX8_chainOf_90 : decode cX8_chainOf 90 = .ok (.iload 5, 2) := by decide +kernel
theorem dX8_chainOf_92 : decode cX8_chainOf 92 = .ok (.goto 4, 3) := by decide +kernel
theorem dX8_chainOf_95 : decode cX8_chainOf 95 = .ok (.iload_n 3, 1) := by decide +kernel
theorem dX8_chainOf_96 : decode cX8_chainOf 96 = .ok (.istore_n 3, 1) := by decide +kernel
theorem dX8_chainOf_97 : decode cX8_chainOf 97 = .ok (.goto (-88), 3) := by decide +kernel
theorem dX8_chainOf_100 : decode cX8_chainOf 100 = .ok (.iload_n 2, 1) := by decide +kernel
theorem dX8_chainOf_101 : decode cX8_chainOf 101 = .ok (.ireturn, 1) := by decide +kernel
theorem dX8_byThemselves_0 : decode cX8_byThemselves 0 = .ok (.iconst 0, 1) := by decide +kernel
theorem dX8_byThemselves_1 : decode cX8_byThemselves 1 = .ok (.istore_n 1, 1) := by decide +kernel
theorem dX8_byThemselves_2 : decode cX8_byThemselves 2 = .ok (.iconst 0, 1) := by decide +kernel
theorem dX8_byThemselves_3 : decode cX8_byThemselves 3 = .ok (.istore_n 2, 1) := by decide +kernel
theorem dX8_byThemselves_4 : decode cX8_byThemselves 4 = .ok (.iload_n 2, 1) := by decide +kernel
theorem dX8_byThemselves_5 : decode cX8_byThemselves 5 = .ok (.aload_n 0, 1) := by decide +kernel
theorem dX8_byThemselves_6 : decode cX8_byThemselves 6 = .ok (.getfield 87, 3) := by decide +kernel
theorem dX8_byThemselves_9 : decode cX8_byThemselves 9 = .ok (.if_icmp .ge 27, 3) := by decide +kernel
theorem dX8_byThemselves_12 : decode cX8_byThemselves 12 = .ok (.iload_n 1, 1) := by decide +kernel
theorem dX8_byThemselves_13 : decode cX8_byThemselves 13 = .ok (.aload_n 0, 1) := by decide +kernel
theorem dX8_byThemselves_14 : decode cX8_byThemselves 14 = .ok (.iload_n 2, 1) := by decide +kernel
theorem dX8_byThemselves_15 : decode cX8_byThemselves 15 = .ok (.invokevirtual 221, 3) := by decide +kernel
theorem dX8_byThemselves_18 : decode cX8_byThemselves 18 = .ok (.ifCond .eq 9, 3) := by decide +kernel
theorem dX8_byThemselves_21 : decode cX8_byThemselves 21 = .ok (.iconst 1, 1) := by decide +kernel
theorem dX8_byThemselves_22 : decode cX8_byThemselves 22 = .ok (.iload_n 2, 1) := by decide +kernel
theorem dX8_byThemselves_23 : decode cX8_byThemselves 23 = .ok (.ishl, 1) := by decide +kernel
theorem dX8_byThemselves_24 : decode cX8_byThemselves 24 = .ok (.goto 4, 3) := by decide +kernel
theorem dX8_byThemselves_27 : decode cX8_byThemselves 27 = .ok (.iconst 0, 1) := by decide +kernel
theorem dX8_byThemselves_28 : decode cX8_byThemselves 28 = .ok (.ior, 1) := by decide +kernel
theorem dX8_byThemselves_29 : decode cX8_byThemselves 29 = .ok (.istore_n 1, 1) := by decide +kernel
theorem dX8_byThemselves_30 : decode cX8_byThemselves 30 = .ok (.iinc 2 1, 3) := by decide +kernel
theorem dX8_byThemselves_33 : decode cX8_byThemselves 33 = .ok (.goto (-29), 3) := by decide +kernel
theorem dX8_byThemselves_36 : decode cX8_byThemselves 36 = .ok (.iload_n 1, 1) := by decide +kernel
theorem dX8_byThemselves_37 : decode cX8_byThemselves 37 = .ok (.ireturn, 1) := by decide +kernel
theorem dX8_holding_0 : decode cX8_holding 0 = .ok (.aload_n 0, 1) := by decide +kernel
theorem dX8_holding_1 : decode cX8_holding 1 = .ok (.invokevirtual 224, 3) := by decide +kernel
theorem dX8_holding_4 : decode cX8_holding 4 = .ok (.istore_n 1, 1) := by decide +kernel
theorem dX8_holding_5 : decode cX8_holding 5 = .ok (.iconst 0, 1) := by decide +kernel
theorem dX8_holding_6 : decode cX8_holding 6 = .ok (.istore_n 2, 1) := by decide +kernel
theorem dX8_holding_7 : decode cX8_holding 7 = .ok (.iconst 0, 1) := by decide +kernel
theorem dX8_holding_8 : decode cX8_holding 8 = .ok (.istore_n 3, 1) := by decide +kernel
theorem dX8_holding_9 : decode cX8_holding 9 = .ok (.iload_n 3, 1) := by decide +kernel
theorem dX8_holding_10 : decode cX8_holding 10 = .ok (.aload_n 0, 1) := by decide +kernel
theorem dX8_holding_11 : decode cX8_holding 11 = .ok (.getfield 87, 3) := by decide +kernel
theorem dX8_holding_14 : decode cX8_holding 14 = .ok (.if_icmp .ge 31, 3) := by decide +kernel
theorem dX8_holding_17 : decode cX8_holding 17 = .ok (.iload_n 2, 1) := by decide +kernel
theorem dX8_holding_18 : decode cX8_holding 18 = .ok (.aload_n 0, 1) := by decide +kernel
theorem dX8_holding_19 : decode cX8_holding 19 = .ok (.iload_n 3, 1) := by decide +kernel
theorem dX8_holding_20 : decode cX8_holding 20 = .ok (.invokevirtual 227, 3) := by decide +kernel
theorem dX8_holding_23 : decode cX8_holding 23 = .ok (.iload_n 1, 1) := by decide +kernel
theorem dX8_holding_24 : decode cX8_holding 24 = .ok (.iconst (-1), 1) := by decide +kernel
theorem dX8_holding_25 : decode cX8_holding 25 = .ok (.ixor, 1) := by decide +kernel
theorem dX8_holding_26 : decode cX8_holding 26 = .ok (.iand, 1) := by decide +kernel
theorem dX8_holding_27 : decode cX8_holding 27 = .ok (.ifCond .ne 9, 3) := by decide +kernel
theorem dX8_holding_30 : decode cX8_holding 30 = .ok (.iconst 1, 1) := by decide +kernel
theorem dX8_holding_31 : decode cX8_holding 31 = .ok (.iload_n 3, 1) := by decide +kernel
theorem dX8_holding_32 : decode cX8_holding 32 = .ok (.ishl, 1) := by decide +kernel
theorem dX8_holding_33 : decode cX8_holding 33 = .ok (.goto 4, 3) := by decide +kernel
theorem dX8_holding_36 : decode cX8_holding 36 = .ok (.iconst 0, 1) := by decide +kernel
theorem dX8_holding_37 : decode cX8_holding 37 = .ok (.ior, 1) := by decide +kernel
theorem dX8_holding_38 : decode cX8_holding 38 = .ok (.istore_n 2, 1) := by decide +kernel
theorem dX8_holding_39 : decode cX8_holding 39 = .ok (.iinc 3 1, 3) := by decide +kernel
theorem dX8_holding_42 : decode cX8_holding 42 = .ok (.goto (-33), 3) := by decide +kernel
theorem dX8_holding_45 : decode cX8_holding 45 = .ok (.iload_n 2, 1) := by decide +kernel
theorem dX8_holding_46 : decode cX8_holding 46 = .ok (.ireturn, 1) := by decide +kernel
theorem dX8_now_0 : decode cX8_now 0 = .ok (.iload_n 1, 1) := by decide +kernel
theorem dX8_now_1 : decode cX8_now 1 = .ok (.tableswitch 42 0 2 #[27, 32, 37], 27) := by decide +kernel
theorem dX8_now_28 : decode cX8_now 28 = .ok (.aload_n 0, 1) := by decide +kernel
theorem dX8_now_29 : decode cX8_now 29 = .ok (.invokevirtual 230, 3) := by decide +kernel
theorem dX8_now_32 : decode cX8_now 32 = .ok (.ireturn, 1) := by decide +kernel
theorem dX8_now_33 : decode cX8_now 33 = .ok (.aload_n 0, 1) := by decide +kernel
theorem dX8_now_34 : decode cX8_now 34 = .ok (.getfield 215, 3) := by decide +kernel
theorem dX8_now_37 : decode cX8_now 37 = .ok (.ireturn, 1) := by decide +kernel
theorem dX8_now_38 : decode cX8_now 38 = .ok (.aload_n 0, 1) := by decide +kernel
theorem dX8_now_39 : decode cX8_now 39 = .ok (.invokevirtual 224, 3) := by decide +kernel
theorem dX8_now_42 : decode cX8_now 42 = .ok (.ireturn, 1) := by decide +kernel
theorem dX8_now_43 : decode cX8_now 43 = .ok (.bipush (-2), 2) := by decide +kernel
theorem dX8_now_45 : decode cX8_now 45 = .ok (.ireturn, 1) := by decide +kernel
theorem dX8_deed_0 : decode cX8_deed 0 = .ok (.iload_n 1, 1) := by decide +kernel
theorem dX8_deed_1 : decode cX8_deed 1 = .ok (.iconst 1, 1) := by decide +kernel
theorem dX8_deed_2 : decode cX8_deed 2 = .ok (.aload_n 0, 1) := by decide +kernel
theorem dX8_deed_3 : decode cX8_deed 3 = .ok (.invokevirtual 126, 3) := by decide +kernel
theorem dX8_deed_6 : decode cX8_deed 6 = .ok (.invokestatic 90, 3) := by decide +kernel
theorem dX8_deed_9 : decode cX8_deed 9 = .ok (.ifCond .ne 6, 3) := by decide +kernel
theorem dX8_deed_12 : decode cX8_deed 12 = .ok (.bipush (-2), 2) := by decide +kernel
theorem dX8_deed_14 : decode cX8_deed 14 = .ok (.ireturn, 1) := by decide +kernel
theorem dX8_deed_15 : decode cX8_deed 15 = .ok (.aload_n 0, 1) := by decide +kernel
theorem dX8_deed_16 : decode cX8_deed 16 = .ok (.getfield 94, 3) := by decide +kernel
theorem dX8_deed_19 : decode cX8_deed 19 = .ok (.bipush 6, 2) := by decide +kernel
theorem dX8_deed_21 : decode cX8_deed 21 = .ok (.if_icmp .ne 6, 3) := by decide +kernel
theorem dX8_deed_24 : decode cX8_deed 24 = .ok (.bipush (-4), 2) := by decide +kernel
theorem dX8_deed_26 : decode cX8_deed 26 = .ok (.ireturn, 1) := by decide +kernel
theorem dX8_deed_27 : decode cX8_deed 27 = .ok (.aload_n 0, 1) := by decide +kernel
theorem dX8_deed_28 : decode cX8_deed 28 = .ok (.getfield 19, 3) := by decide +kernel
theorem dX8_deed_31 : decode cX8_deed 31 = .ok (.aload_n 0, 1) := by decide +kernel
theorem dX8_deed_32 : decode cX8_deed 32 = .ok (.getfield 94, 3) := by decide +kernel
theorem dX8_deed_35 : decode cX8_deed 35 = .ok (.iload_n 1, 1) := by decide +kernel
theorem dX8_deed_36 : decode cX8_deed 36 = .ok (.iastore, 1) := by decide +kernel
theorem dX8_deed_37 : decode cX8_deed 37 = .ok (.aload_n 0, 1) := by decide +kernel
theorem dX8_deed_38 : decode cX8_deed 38 = .ok (.dup, 1) := by decide +kernel
theorem dX8_deed_39 : decode cX8_deed 39 = .ok (.getfield 94, 3) := by decide +kernel
theorem dX8_deed_42 : decode cX8_deed 42 = .ok (.iconst 1, 1) := by decide +kernel
theorem dX8_deed_43 : decode cX8_deed 43 = .ok (.iadd, 1) := by decide +kernel
theorem dX8_deed_44 : decode cX8_deed 44 = .ok (.putfield 94, 3) := by decide +kernel
theorem dX8_deed_47 : decode cX8_deed 47 = .ok (.aload_n 0, 1) := by decide +kernel
theorem dX8_deed_48 : decode cX8_deed 48 = .ok (.getfield 94, 3) := by decide +kernel
theorem dX8_deed_51 : decode cX8_deed 51 = .ok (.iconst 1, 1) := by decide +kernel
theorem dX8_deed_52 : decode cX8_deed 52 = .ok (.isub, 1) := by decide +kernel
theorem dX8_deed_53 : decode cX8_deed 53 = .ok (.ireturn, 1) := by decide +kernel
theorem dX8_needs_0 : decode cX8_needs 0 = .ok (.aload_n 0, 1) := by decide +kernel
theorem dX8_needs_1 : decode cX8_needs 1 = .ok (.iload_n 1, 1) := by decide +kernel
theorem dX8_needs_2 : decode cX8_needs 2 = .ok (.invokevirtual 233, 3) := by decide +kernel
theorem dX8_needs_5 : decode cX8_needs 5 = .ok (.ifCond .eq 12, 3) := by decide +kernel
theorem dX8_needs_8 : decode cX8_needs 8 = .ok (.aload_n 0, 1) := by decide +kernel
theorem dX8_needs_9 : decode cX8_needs 9 = .ok (.getfield 19, 3) := by decide +kernel
theorem dX8_needs_12 : decode cX8_needs 12 = .ok (.iload_n 1, 1) := by decide +kernel
theorem dX8_needs_13 : decode cX8_needs 13 = .ok (.iaload, 1) := by decide +kernel
theorem dX8_needs_14 : decode cX8_needs 14 = .ok (.goto 5, 3) := by decide +kernel
theorem dX8_needs_17 : decode cX8_needs 17 = .ok (.bipush (-5), 2) := by decide +kernel
theorem dX8_needs_19 : decode cX8_needs 19 = .ok (.ireturn, 1) := by decide +kernel
theorem dX8_doneBy_0 : decode cX8_doneBy 0 = .ok (.iconst 0, 1) := by decide +kernel
theorem dX8_doneBy_1 : decode cX8_doneBy 1 = .ok (.istore_n 2, 1) := by decide +kernel
theorem dX8_doneBy_2 : decode cX8_doneBy 2 = .ok (.iconst 0, 1) := by decide +kernel
theorem dX8_doneBy_3 : decode cX8_doneBy 3 = .ok (.istore_n 3, 1) := by decide +kernel
theorem dX8_doneBy_4 : decode cX8_doneBy 4 = .ok (.iload_n 3, 1) := by decide +kernel
theorem dX8_doneBy_5 : decode cX8_doneBy 5 = .ok (.aload_n 0, 1) := by decide +kernel
theorem dX8_doneBy_6 : decode cX8_doneBy 6 = .ok (.getfield 94, 3) := by decide +kernel
theorem dX8_doneBy_9 : decode cX8_doneBy 9 = .ok (.if_icmp .ge 32, 3) := by decide +kernel
theorem dX8_doneBy_12 : decode cX8_doneBy 12 = .ok (.iload_n 2, 1) := by decide +kernel
theorem dX8_doneBy_13 : decode cX8_doneBy 13 = .ok (.aload_n 0, 1) := by decide +kernel
theorem dX8_doneBy_14 : decode cX8_doneBy 14 = .ok (.getfield 19, 3) := by decide +kernel
theorem dX8_doneBy_17 : decode cX8_doneBy 17 = .ok (.iload_n 3, 1) := by decide +kernel
theorem dX8_doneBy_18 : decode cX8_doneBy 18 = .ok (.iaload, 1) := by decide +kernel
theorem dX8_doneBy_19 : decode cX8_doneBy 19 = .ok (.iload_n 1, 1) := by decide +kernel
theorem dX8_doneBy_20 : decode cX8_doneBy 20 = .ok (.iconst (-1), 1) := by decide +kernel
theorem dX8_doneBy_21 : decode cX8_doneBy 21 = .ok (.ixor, 1) := by decide +kernel
theorem dX8_doneBy_22 : decode cX8_doneBy 22 = .ok (.iand, 1) := by decide +kernel
theorem dX8_doneBy_23 : decode cX8_doneBy 23 = .ok (.ifCond .ne 9, 3) := by decide +kernel
theorem dX8_doneBy_26 : decode cX8_doneBy 26 = .ok (.iconst 1, 1) := by decide +kernel
theorem dX8_doneBy_27 : decode cX8_doneBy 27 = .ok (.iload_n 3, 1) := by decide +kernel
theorem dX8_doneBy_28 : decode cX8_doneBy 28 = .ok (.ishl, 1) := by decide +kernel
theorem dX8_doneBy_29 : decode cX8_doneBy 29 = .ok (.goto 4, 3) := by decide +kernel
theorem dX8_doneBy_32 : decode cX8_doneBy 32 = .ok (.iconst 0, 1) := by decide +kernel
theorem dX8_doneBy_33 : decode cX8_doneBy 33 = .ok (.ior, 1) := by decide +kernel
theorem dX8_doneBy_34 : decode cX8_doneBy 34 = .ok (.istore_n 2, 1) := by decide +kernel
theorem dX8_doneBy_35 : decode cX8_doneBy 35 = .ok (.iinc 3 1, 3) := by decide +kernel
theorem dX8_doneBy_38 : decode cX8_doneBy 38 = .ok (.goto (-34), 3) := by decide +kernel
theorem dX8_doneBy_41 : decode cX8_doneBy 41 = .ok (.iload_n 2, 1) := by decide +kernel
theorem dX8_doneBy_42 : decode cX8_doneBy 42 = .ok (.ireturn, 1) := by decide +kernel
theorem dX8_lowestIn_0 : decode cX8_lowestIn 0 = .ok (.iconst 0, 1) := by decide +kernel
theorem dX8_lowestIn_1 : decode cX8_lowestIn 1 = .ok (.istore_n 1, 1) := by decide +kernel
theorem dX8_lowestIn_2 : decode cX8_lowestIn 2 = .ok (.iload_n 0, 1) := by decide +kernel
theorem dX8_lowestIn_3 : decode cX8_lowestIn 3 = .ok (.iload_n 1, 1) := by decide +kernel
theorem dX8_lowestIn_4 : decode cX8_lowestIn 4 = .ok (.ishr, 1) := by decide +kernel
theorem dX8_lowestIn_5 : decode cX8_lowestIn 5 = .ok (.iconst 1, 1) := by decide +kernel
theorem dX8_lowestIn_6 : decode cX8_lowestIn 6 = .ok (.iand, 1) := by decide +kernel
theorem dX8_lowestIn_7 : decode cX8_lowestIn 7 = .ok (.ifCond .ne 9, 3) := by decide +kernel
theorem dX8_lowestIn_10 : decode cX8_lowestIn 10 = .ok (.iinc 1 1, 3) := by decide +kernel
theorem dX8_lowestIn_13 : decode cX8_lowestIn 13 = .ok (.goto (-11), 3) := by decide +kernel
theorem dX8_lowestIn_16 : decode cX8_lowestIn 16 = .ok (.iload_n 1, 1) := by decide +kernel
theorem dX8_lowestIn_17 : decode cX8_lowestIn 17 = .ok (.ireturn, 1) := by decide +kernel
theorem dX8_worthOf_0 : decode cX8_worthOf 0 = .ok (.iconst 0, 1) := by decide +kernel
theorem dX8_worthOf_1 : decode cX8_worthOf 1 = .ok (.istore_n 2, 1) := by decide +kernel
theorem dX8_worthOf_2 : decode cX8_worthOf 2 = .ok (.iconst 0, 1) := by decide +kernel
theorem dX8_worthOf_3 : decode cX8_worthOf 3 = .ok (.istore_n 3, 1) := by decide +kernel
theorem dX8_worthOf_4 : decode cX8_worthOf 4 = .ok (.iload_n 3, 1) := by decide +kernel
theorem dX8_worthOf_5 : decode cX8_worthOf 5 = .ok (.aload_n 0, 1) := by decide +kernel
theorem dX8_worthOf_6 : decode cX8_worthOf 6 = .ok (.getfield 94, 3) := by decide +kernel
theorem dX8_worthOf_9 : decode cX8_worthOf 9 = .ok (.if_icmp .ge 49, 3) := by decide +kernel
theorem dX8_worthOf_12 : decode cX8_worthOf 12 = .ok (.iload_n 2, 1) := by decide +kernel
theorem dX8_worthOf_13 : decode cX8_worthOf 13 = .ok (.iload_n 1, 1) := by decide +kernel
theorem dX8_worthOf_14 : decode cX8_worthOf 14 = .ok (.iload_n 3, 1) := by decide +kernel
theorem dX8_worthOf_15 : decode cX8_worthOf 15 = .ok (.ishr, 1) := by decide +kernel
theorem dX8_worthOf_16 : decode cX8_worthOf 16 = .ok (.iconst 1, 1) := by decide +kernel
theorem dX8_worthOf_17 : decode cX8_worthOf 17 = .ok (.iand, 1) := by decide +kernel
theorem dX8_worthOf_18 : decode cX8_worthOf 18 = .ok (.iconst 1, 1) := by decide +kernel
theorem dX8_worthOf_19 : decode cX8_worthOf 19 = .ok (.if_icmp .ne 30, 3) := by decide +kernel
theorem dX8_worthOf_22 : decode cX8_worthOf 22 = .ok (.aload_n 0, 1) := by decide +kernel
theorem dX8_worthOf_23 : decode cX8_worthOf 23 = .ok (.iconst 2, 1) := by decide +kernel
theorem dX8_worthOf_24 : decode cX8_worthOf 24 = .ok (.aload_n 0, 1) := by decide +kernel
theorem dX8_worthOf_25 : decode cX8_worthOf 25 = .ok (.getfield 19, 3) := by decide +kernel
theorem dX8_worthOf_28 : decode cX8_worthOf 28 = .ok (.iload_n 3, 1) := by decide +kernel
theorem dX8_worthOf_29 : decode cX8_worthOf 29 = .ok (.iaload, 1) := by decide +kernel
theorem dX8_worthOf_30 : decode cX8_worthOf 30 = .ok (.invokestatic 236, 3) := by decide +kernel
theorem dX8_worthOf_33 : decode cX8_worthOf 33 = .ok (.aload_n 0, 1) := by decide +kernel
theorem dX8_worthOf_34 : decode cX8_worthOf 34 = .ok (.getfield 19, 3) := by decide +kernel
theorem dX8_worthOf_37 : decode cX8_worthOf 37 = .ok (.iload_n 3, 1) := by decide +kernel
theorem dX8_worthOf_38 : decode cX8_worthOf 38 = .ok (.iaload, 1) := by decide +kernel
theorem dX8_worthOf_39 : decode cX8_worthOf 39 = .ok (.invokestatic 218, 3) := by decide +kernel
theorem dX8_worthOf_42 : decode cX8_worthOf 42 = .ok (.iconst 0, 1) := by decide +kernel
theorem dX8_worthOf_43 : decode cX8_worthOf 43 = .ok (.invokevirtual 204, 3) := by decide +kernel
theorem dX8_worthOf_46 : decode cX8_worthOf 46 = .ok (.goto 4, 3) := by decide +kernel
theorem dX8_worthOf_49 : decode cX8_worthOf 49 = .ok (.iconst 0, 1) := by decide +kernel
theorem dX8_worthOf_50 : decode cX8_worthOf 50 = .ok (.iadd, 1) := by decide +kernel
theorem dX8_worthOf_51 : decode cX8_worthOf 51 = .ok (.istore_n 2, 1) := by decide +kernel
theorem dX8_worthOf_52 : decode cX8_worthOf 52 = .ok (.iinc 3 1, 3) := by decide +kernel
theorem dX8_worthOf_55 : decode cX8_worthOf 55 = .ok (.goto (-51), 3) := by decide +kernel
theorem dX8_worthOf_58 : decode cX8_worthOf 58 = .ok (.iload_n 2, 1) := by decide +kernel
theorem dX8_worthOf_59 : decode cX8_worthOf 59 = .ok (.ireturn, 1) := by decide +kernel
theorem dX8_done_0 : decode cX8_done 0 = .ok (.iload_n 1, 1) := by decide +kernel
theorem dX8_done_1 : decode cX8_done 1 = .ok (.iconst 0, 1) := by decide +kernel
theorem dX8_done_2 : decode cX8_done 2 = .ok (.iconst 1, 1) := by decide +kernel
theorem dX8_done_3 : decode cX8_done 3 = .ok (.invokestatic 90, 3) := by decide +kernel
theorem dX8_done_6 : decode cX8_done 6 = .ok (.ifCond .ne 6, 3) := by decide +kernel
theorem dX8_done_9 : decode cX8_done 9 = .ok (.bipush (-2), 2) := by decide +kernel
theorem dX8_done_11 : decode cX8_done 11 = .ok (.ireturn, 1) := by decide +kernel
theorem dX8_done_12 : decode cX8_done 12 = .ok (.aload_n 0, 1) := by decide +kernel
theorem dX8_done_13 : decode cX8_done 13 = .ok (.aload_n 0, 1) := by decide +kernel
theorem dX8_done_14 : decode cX8_done 14 = .ok (.invokevirtual 230, 3) := by decide +kernel
theorem dX8_done_17 : decode cX8_done 17 = .ok (.invokevirtual 239, 3) := by decide +kernel
theorem dX8_done_20 : decode cX8_done 20 = .ok (.istore_n 2, 1) := by decide +kernel
theorem dX8_done_21 : decode cX8_done 21 = .ok (.iload_n 1, 1) := by decide +kernel
theorem dX8_done_22 : decode cX8_done 22 = .ok (.ifCond .ne 7, 3) := by decide +kernel
theorem dX8_done_25 : decode cX8_done 25 = .ok (.iload_n 2, 1) := by decide +kernel
theorem dX8_done_26 : decode cX8_done 26 = .ok (.goto 8, 3) := by decide +kernel
theorem dX8_done_29 : decode cX8_done 29 = .ok (.aload_n 0, 1) := by decide +kernel
theorem dX8_done_30 : decode cX8_done 30 = .ok (.iload_n 2, 1) := by decide +kernel
theorem dX8_done_31 : decode cX8_done 31 = .ok (.invokevirtual 242, 3) := by decide +kernel
theorem dX8_done_34 : decode cX8_done 34 = .ok (.ireturn, 1) := by decide +kernel
theorem dX8_dayOf_0 : decode cX8_dayOf 0 = .ok (.aload_n 0, 1) := by decide +kernel
theorem dX8_dayOf_1 : decode cX8_dayOf 1 = .ok (.invokevirtual 119, 3) := by decide +kernel
theorem dX8_dayOf_4 : decode cX8_dayOf 4 = .ok (.istore_n 1, 1) := by decide +kernel
theorem dX8_dayOf_5 : decode cX8_dayOf 5 = .ok (.aload_n 0, 1) := by decide +kernel
theorem dX8_dayOf_6 : decode cX8_dayOf 6 = .ok (.dup, 1) := by decide +kernel
theorem dX8_dayOf_7 : decode cX8_dayOf 7 = .ok (.getfield 107, 3) := by decide +kernel
theorem dX8_dayOf_10 : decode cX8_dayOf 10 = .ok (.iconst 1, 1) := by decide +kernel
theorem dX8_dayOf_11 : decode cX8_dayOf 11 = .ok (.iadd, 1) := by decide +kernel
theorem dX8_dayOf_12 : decode cX8_dayOf 12 = .ok (.putfield 107, 3) := by decide +kernel
theorem dX8_dayOf_15 : decode cX8_dayOf 15 = .ok (.aload_n 0, 1) := by decide +kernel
theorem dX8_dayOf_16 : decode cX8_dayOf 16 = .ok (.iconst 0, 1) := by decide +kernel
theorem dX8_dayOf_17 : decode cX8_dayOf 17 = .ok (.putfield 215, 3) := by decide +kernel
theorem dX8_dayOf_20 : decode cX8_dayOf 20 = .ok (.iload_n 1, 1) := by decide +kernel
theorem dX8_dayOf_21 : decode cX8_dayOf 21 = .ok (.ifCond .le 187, 3) := by decide +kernel
theorem dX8_dayOf_24 : decode cX8_dayOf 24 = .ok (.aload_n 0, 1) := by decide +kernel
theorem dX8_dayOf_25 : decode cX8_dayOf 25 = .ok (.aload_n 0, 1) := by decide +kernel
theorem dX8_dayOf_26 : decode cX8_dayOf 26 = .ok (.getfield 22, 3) := by decide +kernel
theorem dX8_dayOf_29 : decode cX8_dayOf 29 = .ok (.iconst (-1), 1) := by decide +kernel
theorem dX8_dayOf_30 : decode cX8_dayOf 30 = .ok (.if_icmp .ne 12, 3) := by decide +kernel
theorem dX8_dayOf_33 : decode cX8_dayOf 33 = .ok (.aload_n 0, 1) := by decide +kernel
theorem dX8_dayOf_34 : decode cX8_dayOf 34 = .ok (.getfield 104, 3) := by decide +kernel
theorem dX8_dayOf_37 : decode cX8_dayOf 37 = .ok (.iload_n 1, 1) := by decide +kernel
theorem dX8_dayOf_38 : decode cX8_dayOf 38 = .ok (.irem, 1) := by decide +kernel
theorem dX8_dayOf_39 : decode cX8_dayOf 39 = .ok (.goto 11, 3) := by decide +kernel
theorem dX8_dayOf_42 : decode cX8_dayOf 42 = .ok (.aload_n 0, 1) := by decide +kernel
theorem dX8_dayOf_43 : decode cX8_dayOf 43 = .ok (.aload_n 0, 1) := by decide +kernel
theorem dX8_dayOf_44 : decode cX8_dayOf 44 = .ok (.getfield 22, 3) := by decide +kernel
theorem dX8_dayOf_47 : decode cX8_dayOf 47 = .ok (.invokevirtual 101, 3) := by decide +kernel
theorem dX8_dayOf_50 : decode cX8_dayOf 50 = .ok (.putfield 245, 3) := by decide +kernel
theorem dX8_dayOf_53 : decode cX8_dayOf 53 = .ok (.aload_n 0, 1) := by decide +kernel
theorem dX8_dayOf_54 : decode cX8_dayOf 54 = .ok (.iconst (-1), 1) := by decide +kernel
theorem dX8_dayOf_55 : decode cX8_dayOf 55 = .ok (.putfield 22, 3) := by decide +kernel
theorem dX8_dayOf_58 : decode cX8_dayOf 58 = .ok (.aload_n 0, 1) := by decide +kernel
theorem dX8_dayOf_59 : decode cX8_dayOf 59 = .ok (.iconst 0, 1) := by decide +kernel
theorem dX8_dayOf_60 : decode cX8_dayOf 60 = .ok (.aload_n 0, 1) := by decide +kernel
theorem dX8_dayOf_61 : decode cX8_dayOf 61 = .ok (.aload_n 0, 1) := by decide +kernel
theorem dX8_dayOf_62 : decode cX8_dayOf 62 = .ok (.getfield 245, 3) := by decide +kernel
theorem dX8_dayOf_65 : decode cX8_dayOf 65 = .ok (.invokevirtual 248, 3) := by decide +kernel
theorem dX8_dayOf_68 : decode cX8_dayOf 68 = .ok (.iconst 0, 1) := by decide +kernel
theorem dX8_dayOf_69 : decode cX8_dayOf 69 = .ok (.iconst 0, 1) := by decide +kernel
theorem dX8_dayOf_70 : decode cX8_dayOf 70 = .ok (.invokevirtual 204, 3) := by decide +kernel
theorem dX8_dayOf_73 : decode cX8_dayOf 73 = .ok (.istore_n 2, 1) := by decide +kernel
theorem dX8_dayOf_74 : decode cX8_dayOf 74 = .ok (.iload_n 2, 1) := by decide +kernel
theorem dX8_dayOf_75 : decode cX8_dayOf 75 = .ok (.iload_n 1, 1) := by decide +kernel
theorem dX8_dayOf_76 : decode cX8_dayOf 76 = .ok (.if_icmp .le 7, 3) := by decide +kernel
theorem dX8_dayOf_79 : decode cX8_dayOf 79 = .ok (.iload_n 1, 1) := by decide +kernel
theorem dX8_dayOf_80 : decode cX8_dayOf 80 = .ok (.goto 4, 3) := by decide +kernel
theorem dX8_dayOf_83 : decode cX8_dayOf 83 = .ok (.iload_n 2, 1) := by decide +kernel
theorem dX8_dayOf_84 : decode cX8_dayOf 84 = .ok (.istore_n 2, 1) := by decide +kernel
theorem dX8_dayOf_85 : decode cX8_dayOf 85 = .ok (.iconst 0, 1) := by decide +kernel
theorem dX8_dayOf_86 : decode cX8_dayOf 86 = .ok (.istore_n 3, 1) := by decide +kernel
theorem dX8_dayOf_87 : decode cX8_dayOf 87 = .ok (.iload_n 3, 1) := by decide +kernel
theorem dX8_dayOf_88 : decode cX8_dayOf 88 = .ok (.iload_n 2, 1) := by decide +kernel
theorem dX8_dayOf_89 : decode cX8_dayOf 89 = .ok (.if_icmp .ge 52, 3) := by decide +kernel
theorem dX8_dayOf_92 : decode cX8_dayOf 92 = .ok (.aload_n 0, 1) := by decide +kernel
theorem dX8_dayOf_93 : decode cX8_dayOf 93 = .ok (.aload_n 0, 1) := by decide +kernel
theorem dX8_dayOf_94 : decode cX8_dayOf 94 = .ok (.getfield 245, 3) := by decide +kernel
theorem dX8_dayOf_97 : decode cX8_dayOf 97 = .ok (.iload_n 3, 1) := by decide +kernel
theorem dX8_dayOf_98 : decode cX8_dayOf 98 = .ok (.iadd, 1) := by decide +kernel
theorem dX8_dayOf_99 : decode cX8_dayOf 99 = .ok (.iload_n 1, 1) := by decide +kernel
theorem dX8_dayOf_100 : decode cX8_dayOf 100 = .ok (.irem, 1) := by decide +kernel
theorem dX8_dayOf_101 : decode cX8_dayOf 101 = .ok (.invokevirtual 248, 3) := by decide +kernel
theorem dX8_dayOf_104 : decode cX8_dayOf 104 = .ok (.istore 4, 2) := by decide +kernel
theorem dX8_dayOf_106 : decode cX8_dayOf 106 = .ok (.aload_n 0, 1) := by decide +kernel
theorem dX8_dayOf_107 : decode cX8_dayOf 107 = .ok (.dup, 1) := by decide +kernel
theorem dX8_dayOf_108 : decode cX8_dayOf 108 = .ok (.getfield 215, 3) := by decide +kernel
theorem dX8_dayOf_111 : decode cX8_dayOf 111 = .ok (.aload_n 0, 1) := by decide +kernel
theorem dX8_dayOf_112 : decode cX8_dayOf 112 = .ok (.getfield 110, 3) := by decide +kernel
theorem dX8_dayOf_115 : decode cX8_dayOf 115 = .ok (.iload 4, 2) := by decide +kernel
theorem dX8_dayOf_117 : decode cX8_dayOf 117 = .ok (.ishr, 1) := by decide +kernel
theorem dX8_dayOf_118 : decode cX8_dayOf 118 = .ok (.iconst 1, 1) := by decide +kernel
theorem dX8_dayOf_119 : decode cX8_dayOf 119 = .ok (.iand, 1) := by decide +kernel
theorem dX8_dayOf_120 : decode cX8_dayOf 120 = .ok (.ifCond .ne 10, 3) := by decide +kernel
theorem dX8_dayOf_123 : decode cX8_dayOf 123 = .ok (.iconst 1, 1) := by decide +kernel
theorem dX8_dayOf_124 : decode cX8_dayOf 124 = .ok (.iload 4, 2) := by decide +kernel
theorem dX8_dayOf_126 : decode cX8_dayOf 126 = .ok (.ishl, 1) := by decide +kernel
theorem dX8_dayOf_127 : decode cX8_dayOf 127 = .ok (.goto 4, 3) := by decide +kernel
theorem dX8_dayOf_130 : decode cX8_dayOf 130 = .ok (.iconst 0, 1) := by decide +kernel
theorem dX8_dayOf_131 : decode cX8_dayOf 131 = .ok (.ior, 1) := by decide +kernel
theorem dX8_dayOf_132 : decode cX8_dayOf 132 = .ok (.putfield 215, 3) := by decide +kernel
theorem dX8_dayOf_135 : decode cX8_dayOf 135 = .ok (.iinc 3 1, 3) := by decide +kernel
theorem dX8_dayOf_138 : decode cX8_dayOf 138 = .ok (.goto (-51), 3) := by decide +kernel
theorem dX8_dayOf_141 : decode cX8_dayOf 141 = .ok (.iconst 0, 1) := by decide +kernel
theorem dX8_dayOf_142 : decode cX8_dayOf 142 = .ok (.istore_n 3, 1) := by decide +kernel
theorem dX8_dayOf_143 : decode cX8_dayOf 143 = .ok (.iload_n 3, 1) := by decide +kernel
theorem dX8_dayOf_144 : decode cX8_dayOf 144 = .ok (.aload_n 0, 1) := by decide +kernel
theorem dX8_dayOf_145 : decode cX8_dayOf 145 = .ok (.getfield 87, 3) := by decide +kernel
theorem dX8_dayOf_148 : decode cX8_dayOf 148 = .ok (.if_icmp .ge 48, 3) := by decide +kernel
theorem dX8_dayOf_151 : decode cX8_dayOf 151 = .ok (.aload_n 0, 1) := by decide +kernel
theorem dX8_dayOf_152 : decode cX8_dayOf 152 = .ok (.getfield 16, 3) := by decide +kernel
theorem dX8_dayOf_155 : decode cX8_dayOf 155 = .ok (.iconst 3, 1) := by decide +kernel
theorem dX8_dayOf_156 : decode cX8_dayOf 156 = .ok (.iload_n 3, 1) := by decide +kernel
theorem dX8_dayOf_157 : decode cX8_dayOf 157 = .ok (.imul, 1) := by decide +kernel
theorem dX8_dayOf_158 : decode cX8_dayOf 158 = .ok (.iconst 2, 1) := by decide +kernel
theorem dX8_dayOf_159 : decode cX8_dayOf 159 = .ok (.iadd, 1) := by decide +kernel
theorem dX8_dayOf_160 : decode cX8_dayOf 160 = .ok (.aload_n 0, 1) := by decide +kernel
theorem dX8_dayOf_161 : decode cX8_dayOf 161 = .ok (.getfield 215, 3) := by decide +kernel
theorem dX8_dayOf_164 : decode cX8_dayOf 164 = .ok (.iload_n 3, 1) := by decide +kernel
theorem dX8_dayOf_165 : decode cX8_dayOf 165 = .ok (.ishr, 1) := by decide +kernel
theorem dX8_dayOf_166 : decode cX8_dayOf 166 = .ok (.iconst 1, 1) := by decide +kernel
theorem dX8_dayOf_167 : decode cX8_dayOf 167 = .ok (.iand, 1) := by decide +kernel
theorem dX8_dayOf_168 : decode cX8_dayOf 168 = .ok (.iconst 1, 1) := by decide +kernel
theorem dX8_dayOf_169 : decode cX8_dayOf 169 = .ok (.if_icmp .ne 10, 3) := by decide +kernel
theorem dX8_dayOf_172 : decode cX8_dayOf 172 = .ok (.aload_n 0, 1) := by decide +kernel
theorem dX8_dayOf_173 : decode cX8_dayOf 173 = .ok (.getfield 107, 3) := by decide +kernel
theorem dX8_dayOf_176 : decode cX8_dayOf 176 = .ok (.goto 13, 3) := by decide +kernel
theorem dX8_dayOf_179 : decode cX8_dayOf 179 = .ok (.aload_n 0, 1) := by decide +kernel
theorem dX8_dayOf_180 : decode cX8_dayOf 180 = .ok (.getfield 16, 3) := by decide +kernel
theorem dX8_dayOf_183 : decode cX8_dayOf 183 = .ok (.iconst 3, 1) := by decide +kernel
theorem dX8_dayOf_184 : decode cX8_dayOf 184 = .ok (.iload_n 3, 1) := by decide +kernel
theorem dX8_dayOf_185 : decode cX8_dayOf 185 = .ok (.imul, 1) := by decide +kernel
theorem dX8_dayOf_186 : decode cX8_dayOf 186 = .ok (.iconst 2, 1) := by decide +kernel
theorem dX8_dayOf_187 : decode cX8_dayOf 187 = .ok (.iadd, 1) := by decide +kernel
theorem dX8_dayOf_188 : decode cX8_dayOf 188 = .ok (.iaload, 1) := by decide +kernel
theorem dX8_dayOf_189 : decode cX8_dayOf 189 = .ok (.iastore, 1) := by decide +kernel
theorem dX8_dayOf_190 : decode cX8_dayOf 190 = .ok (.iinc 3 1, 3) := by decide +kernel
theorem dX8_dayOf_193 : decode cX8_dayOf 193 = .ok (.goto (-50), 3) := by decide +kernel
theorem dX8_dayOf_196 : decode cX8_dayOf 196 = .ok (.aload_n 0, 1) := by decide +kernel
theorem dX8_dayOf_197 : decode cX8_dayOf 197 = .ok (.aload_n 0, 1) := by decide +kernel
theorem dX8_dayOf_198 : decode cX8_dayOf 198 = .ok (.getfield 245, 3) := by decide +kernel
theorem dX8_dayOf_201 : decode cX8_dayOf 201 = .ok (.iload_n 2, 1) := by decide +kernel
theorem dX8_dayOf_202 : decode cX8_dayOf 202 = .ok (.iadd, 1) := by decide +kernel
theorem dX8_dayOf_203 : decode cX8_dayOf 203 = .ok (.iload_n 1, 1) := by decide +kernel
theorem dX8_dayOf_204 : decode cX8_dayOf 204 = .ok (.irem, 1) := by decide +kernel
theorem dX8_dayOf_205 : decode cX8_dayOf 205 = .ok (.putfield 104, 3) := by decide +kernel
theorem dX8_dayOf_208 : decode cX8_dayOf 208 = .ok (.return_, 1) := by decide +kernel
theorem dX8_live_0 : decode cX8_live 0 = .ok (.aload_n 0, 1) := by decide +kernel
theorem dX8_live_1 : decode cX8_live 1 = .ok (.getfield 107, 3) := by decide +kernel
theorem dX8_live_4 : decode cX8_live 4 = .ok (.sipush 999, 3) := by decide +kernel
theorem dX8_live_7 : decode cX8_live 7 = .ok (.if_icmp .ne 6, 3) := by decide +kernel
theorem dX8_live_10 : decode cX8_live 10 = .ok (.bipush (-4), 2) := by decide +kernel
theorem dX8_live_12 : decode cX8_live 12 = .ok (.ireturn, 1) := by decide +kernel
theorem dX8_live_13 : decode cX8_live 13 = .ok (.aload_n 0, 1) := by decide +kernel
theorem dX8_live_14 : decode cX8_live 14 = .ok (.invokevirtual 251, 3) := by decide +kernel
theorem dX8_live_17 : decode cX8_live 17 = .ok (.aload_n 0, 1) := by decide +kernel
theorem dX8_live_18 : decode cX8_live 18 = .ok (.getfield 215, 3) := by decide +kernel
theorem dX8_live_21 : decode cX8_live 21 = .ok (.ireturn, 1) := by decide +kernel
theorem dX8_keeps_0 : decode cX8_keeps 0 = .ok (.iconst 0, 1) := by decide +kernel
theorem dX8_keeps_1 : decode cX8_keeps 1 = .ok (.istore_n 1, 1) := by decide +kernel
theorem dX8_keeps_2 : decode cX8_keeps 2 = .ok (.iload_n 1, 1) := by decide +kernel
theorem dX8_keeps_3 : decode cX8_keeps 3 = .ok (.bipush 12, 2) := by decide +kernel
theorem dX8_keeps_5 : decode cX8_keeps 5 = .ok (.if_icmp .ge 25, 3) := by decide +kernel
theorem dX8_keeps_8 : decode cX8_keeps 8 = .ok (.aload_n 0, 1) := by decide +kernel
theorem dX8_keeps_9 : decode cX8_keeps 9 = .ok (.getfield 68, 3) := by decide +kernel
theorem dX8_keeps_12 : decode cX8_keeps 12 = .ok (.iload_n 1, 1) := by decide +kernel
theorem dX8_keeps_13 : decode cX8_keeps 13 = .ok (.aload_n 0, 1) := by decide +kernel
theorem dX8_keeps_14 : decode cX8_keeps 14 = .ok (.getfield 16, 3) := by decide +kernel
theorem dX8_keeps_17 : decode cX8_keeps 17 = .ok (.iconst 3, 1) := by decide +kernel
theorem dX8_keeps_18 : decode cX8_keeps 18 = .ok (.iload_n 1, 1) := by decide +kernel
theorem dX8_keeps_19 : decode cX8_keeps 19 = .ok (.imul, 1) := by decide +kernel
theorem dX8_keeps_20 : decode cX8_keeps 20 = .ok (.iconst 2, 1) := by decide +kernel
theorem dX8_keeps_21 : decode cX8_keeps 21 = .ok (.iadd, 1) := by decide +kernel
theorem dX8_keeps_22 : decode cX8_keeps 22 = .ok (.iaload, 1) := by decide +kernel
theorem dX8_keeps_23 : decode cX8_keeps 23 = .ok (.iastore, 1) := by decide +kernel
theorem dX8_keeps_24 : decode cX8_keeps 24 = .ok (.iinc 1 1, 3) := by decide +kernel
theorem dX8_keeps_27 : decode cX8_keeps 27 = .ok (.goto (-25), 3) := by decide +kernel
theorem dX8_keeps_30 : decode cX8_keeps 30 = .ok (.aload_n 0, 1) := by decide +kernel
theorem dX8_keeps_31 : decode cX8_keeps 31 = .ok (.getfield 71, 3) := by decide +kernel
theorem dX8_keeps_34 : decode cX8_keeps 34 = .ok (.iconst 0, 1) := by decide +kernel
theorem dX8_keeps_35 : decode cX8_keeps 35 = .ok (.aload_n 0, 1) := by decide +kernel
theorem dX8_keeps_36 : decode cX8_keeps 36 = .ok (.getfield 104, 3) := by decide +kernel
theorem dX8_keeps_39 : decode cX8_keeps 39 = .ok (.iastore, 1) := by decide +kernel
theorem dX8_keeps_40 : decode cX8_keeps 40 = .ok (.aload_n 0, 1) := by decide +kernel
theorem dX8_keeps_41 : decode cX8_keeps 41 = .ok (.getfield 71, 3) := by decide +kernel
theorem dX8_keeps_44 : decode cX8_keeps 44 = .ok (.iconst 1, 1) := by decide +kernel
theorem dX8_keeps_45 : decode cX8_keeps 45 = .ok (.aload_n 0, 1) := by decide +kernel
theorem dX8_keeps_46 : decode cX8_keeps 46 = .ok (.getfield 107, 3) := by decide +kernel
theorem dX8_keeps_49 : decode cX8_keeps 49 = .ok (.iastore, 1) := by decide +kernel
theorem dX8_keeps_50 : decode cX8_keeps 50 = .ok (.aload_n 0, 1) := by decide +kernel
theorem dX8_keeps_51 : decode cX8_keeps 51 = .ok (.getfield 71, 3) := by decide +kernel
theorem dX8_keeps_54 : decode cX8_keeps 54 = .ok (.iconst 2, 1) := by decide +kernel
theorem dX8_keeps_55 : decode cX8_keeps 55 = .ok (.aload_n 0, 1) := by decide +kernel
theorem dX8_keeps_56 : decode cX8_keeps 56 = .ok (.getfield 22, 3) := by decide +kernel
theorem dX8_keeps_59 : decode cX8_keeps 59 = .ok (.iastore, 1) := by decide +kernel
theorem dX8_keeps_60 : decode cX8_keeps 60 = .ok (.aload_n 0, 1) := by decide +kernel
theorem dX8_keeps_61 : decode cX8_keeps 61 = .ok (.getfield 71, 3) := by decide +kernel
theorem dX8_keeps_64 : decode cX8_keeps 64 = .ok (.iconst 3, 1) := by decide +kernel
theorem dX8_keeps_65 : decode cX8_keeps 65 = .ok (.aload_n 0, 1) := by decide +kernel
theorem dX8_keeps_66 : decode cX8_keeps 66 = .ok (.getfield 215, 3) := by decide +kernel
theorem dX8_keeps_69 : decode cX8_keeps 69 = .ok (.iastore, 1) := by decide +kernel
theorem dX8_keeps_70 : decode cX8_keeps 70 = .ok (.aload_n 0, 1) := by decide +kernel
theorem dX8_keeps_71 : decode cX8_keeps 71 = .ok (.iconst 0, 1) := by decide +kernel
theorem dX8_keeps_72 : decode cX8_keeps 72 = .ok (.putfield 254, 3) := by decide +kernel
theorem dX8_keeps_75 : decode cX8_keeps 75 = .ok (.aload_n 0, 1) := by decide +kernel
theorem dX8_keeps_76 : decode cX8_keeps 76 = .ok (.iconst 0, 1) := by decide +kernel
theorem dX8_keeps_77 : decode cX8_keeps 77 = .ok (.putfield 257, 3) := by decide +kernel
theorem dX8_keeps_80 : decode cX8_keeps 80 = .ok (.aload_n 0, 1) := by decide +kernel
theorem dX8_keeps_81 : decode cX8_keeps 81 = .ok (.iconst 0, 1) := by decide +kernel
theorem dX8_keeps_82 : decode cX8_keeps 82 = .ok (.putfield 260, 3) := by decide +kernel
theorem dX8_keeps_85 : decode cX8_keeps 85 = .ok (.aload_n 0, 1) := by decide +kernel
theorem dX8_keeps_86 : decode cX8_keeps 86 = .ok (.iconst 0, 1) := by decide +kernel
theorem dX8_keeps_87 : decode cX8_keeps 87 = .ok (.putfield 263, 3) := by decide +kernel
theorem dX8_keeps_90 : decode cX8_keeps 90 = .ok (.aload_n 0, 1) := by decide +kernel
theorem dX8_keeps_91 : decode cX8_keeps 91 = .ok (.iconst (-1), 1) := by decide +kernel
theorem dX8_keeps_92 : decode cX8_keeps 92 = .ok (.putfield 266, 3) := by decide +kernel
theorem dX8_keeps_95 : decode cX8_keeps 95 = .ok (.aload_n 0, 1) := by decide +kernel
theorem dX8_keeps_96 : decode cX8_keeps 96 = .ok (.iconst (-1), 1) := by decide +kernel
theorem dX8_keeps_97 : decode cX8_keeps 97 = .ok (.putfield 269, 3) := by decide +kernel
theorem dX8_keeps_100 : decode cX8_keeps 100 = .ok (.return_, 1) := by decide +kernel
theorem dX8_laysBack_0 : decode cX8_laysBack 0 = .ok (.aload_n 0, 1) := by decide +kernel
theorem dX8_laysBack_1 : decode cX8_laysBack 1 = .ok (.aload_n 0, 1) := by decide +kernel
theorem dX8_laysBack_2 : decode cX8_laysBack 2 = .ok (.getfield 104, 3) := by decide +kernel
theorem dX8_laysBack_5 : decode cX8_laysBack 5 = .ok (.putfield 272, 3) := by decide +kernel
theorem dX8_laysBack_8 : decode cX8_laysBack 8 = .ok (.iconst 0, 1) := by decide +kernel
theorem dX8_laysBack_9 : decode cX8_laysBack 9 = .ok (.istore_n 1, 1) := by decide +kernel
theorem dX8_laysBack_10 : decode cX8_laysBack 10 = .ok (.iload_n 1, 1) := by decide +kernel
theorem dX8_laysBack_11 : decode cX8_laysBack 11 = .ok (.bipush 12, 2) := by decide +kernel
theorem dX8_laysBack_13 : decode cX8_laysBack 13 = .ok (.if_icmp .ge 25, 3) := by decide +kernel
theorem dX8_laysBack_16 : decode cX8_laysBack 16 = .ok (.aload_n 0, 1) := by decide +kernel
theorem dX8_laysBack_17 : decode cX8_laysBack 17 = .ok (.getfield 16, 3) := by decide +kernel
theorem dX8_laysBack_20 : decode cX8_laysBack 20 = .ok (.iconst 3, 1) := by decide +kernel
theorem dX8_laysBack_21 : decode cX8_laysBack 21 = .ok (.iload_n 1, 1) := by decide +kernel
theorem dX8_laysBack_22 : decode cX8_laysBack 22 = .ok (.imul, 1) := by decide +kernel
theorem dX8_laysBack_23 : decode cX8_laysBack 23 = .ok (.iconst 2, 1) := by decide +kernel
theorem dX8_laysBack_24 : decode cX8_laysBack 24 = .ok (.iadd, 1) := by decide +kernel
theorem dX8_laysBack_25 : decode cX8_laysBack 25 = .ok (.aload_n 0, 1) := by decide +kernel
theorem dX8_laysBack_26 : decode cX8_laysBack 26 = .ok (.getfield 68, 3) := by decide +kernel
theorem dX8_laysBack_29 : decode cX8_laysBack 29 = .ok (.iload_n 1, 1) := by decide +kernel
theorem dX8_laysBack_30 : decode cX8_laysBack 30 = .ok (.iaload, 1) := by decide +kernel
theorem dX8_laysBack_31 : decode cX8_laysBack 31 = .ok (.iastore, 1) := by decide +kernel
theorem dX8_laysBack_32 : decode cX8_laysBack 32 = .ok (.iinc 1 1, 3) := by decide +kernel
theorem dX8_laysBack_35 : decode cX8_laysBack 35 = .ok (.goto (-25), 3) := by decide +kernel
theorem dX8_laysBack_38 : decode cX8_laysBack 38 = .ok (.aload_n 0, 1) := by decide +kernel
theorem dX8_laysBack_39 : decode cX8_laysBack 39 = .ok (.aload_n 0, 1) := by decide +kernel
theorem dX8_laysBack_40 : decode cX8_laysBack 40 = .ok (.getfield 71, 3) := by decide +kernel
theorem dX8_laysBack_43 : decode cX8_laysBack 43 = .ok (.iconst 0, 1) := by decide +kernel
theorem dX8_laysBack_44 : decode cX8_laysBack 44 = .ok (.iaload, 1) := by decide +kernel
theorem dX8_laysBack_45 : decode cX8_laysBack 45 = .ok (.putfield 104, 3) := by decide +kernel
theorem dX8_laysBack_48 : decode cX8_laysBack 48 = .ok (.aload_n 0, 1) := by decide +kernel
theorem dX8_laysBack_49 : decode cX8_laysBack 49 = .ok (.aload_n 0, 1) := by decide +kernel
theorem dX8_laysBack_50 : decode cX8_laysBack 50 = .ok (.getfield 71, 3) := by decide +kernel
theorem dX8_laysBack_53 : decode cX8_laysBack 53 = .ok (.iconst 1, 1) := by decide +kernel
theorem dX8_laysBack_54 : decode cX8_laysBack 54 = .ok (.iaload, 1) := by decide +kernel
theorem dX8_laysBack_55 : decode cX8_laysBack 55 = .ok (.putfield 107, 3) := by decide +kernel
theorem dX8_laysBack_58 : decode cX8_laysBack 58 = .ok (.aload_n 0, 1) := by decide +kernel
theorem dX8_laysBack_59 : decode cX8_laysBack 59 = .ok (.aload_n 0, 1) := by decide +kernel
theorem dX8_laysBack_60 : decode cX8_laysBack 60 = .ok (.getfield 71, 3) := by decide +kernel
theorem dX8_laysBack_63 : decode cX8_laysBack 63 = .ok (.iconst 2, 1) := by decide +kernel
theorem dX8_laysBack_64 : decode cX8_laysBack 64 = .ok (.iaload, 1) := by decide +kernel
theorem dX8_laysBack_65 : decode cX8_laysBack 65 = .ok (.putfield 22, 3) := by decide +kernel
theorem dX8_laysBack_68 : decode cX8_laysBack 68 = .ok (.aload_n 0, 1) := by decide +kernel
theorem dX8_laysBack_69 : decode cX8_laysBack 69 = .ok (.aload_n 0, 1) := by decide +kernel
theorem dX8_laysBack_70 : decode cX8_laysBack 70 = .ok (.getfield 71, 3) := by decide +kernel
theorem dX8_laysBack_73 : decode cX8_laysBack 73 = .ok (.iconst 3, 1) := by decide +kernel
theorem dX8_laysBack_74 : decode cX8_laysBack 74 = .ok (.iaload, 1) := by decide +kernel
theorem dX8_laysBack_75 : decode cX8_laysBack 75 = .ok (.putfield 215, 3) := by decide +kernel
theorem dX8_laysBack_78 : decode cX8_laysBack 78 = .ok (.return_, 1) := by decide +kernel
theorem dX8_lives_0 : decode cX8_lives 0 = .ok (.aload_n 0, 1) := by decide +kernel
theorem dX8_lives_1 : decode cX8_lives 1 = .ok (.invokevirtual 251, 3) := by decide +kernel
theorem dX8_lives_4 : decode cX8_lives 4 = .ok (.aload_n 0, 1) := by decide +kernel
theorem dX8_lives_5 : decode cX8_lives 5 = .ok (.invokevirtual 230, 3) := by decide +kernel
theorem dX8_lives_8 : decode cX8_lives 8 = .ok (.istore_n 2, 1) := by decide +kernel
theorem dX8_lives_9 : decode cX8_lives 9 = .ok (.aload_n 0, 1) := by decide +kernel
theorem dX8_lives_10 : decode cX8_lives 10 = .ok (.iload_n 2, 1) := by decide +kernel
theorem dX8_lives_11 : decode cX8_lives 11 = .ok (.invokevirtual 239, 3) := by decide +kernel
theorem dX8_lives_14 : decode cX8_lives 14 = .ok (.istore_n 3, 1) := by decide +kernel
theorem dX8_lives_15 : decode cX8_lives 15 = .ok (.aload_n 0, 1) := by decide +kernel
theorem dX8_lives_16 : decode cX8_lives 16 = .ok (.dup, 1) := by decide +kernel
theorem dX8_lives_17 : decode cX8_lives 17 = .ok (.getfield 254, 3) := by decide +kernel
theorem dX8_lives_20 : decode cX8_lives 20 = .ok (.aload_n 0, 1) := by decide +kernel
theorem dX8_lives_21 : decode cX8_lives 21 = .ok (.iload_n 3, 1) := by decide +kernel
theorem dX8_lives_22 : decode cX8_lives 22 = .ok (.invokevirtual 242, 3) := by decide +kernel
theorem dX8_lives_25 : decode cX8_lives 25 = .ok (.iadd, 1) := by decide +kernel
theorem dX8_lives_26 : decode cX8_lives 26 = .ok (.putfield 254, 3) := by decide +kernel
theorem dX8_lives_29 : decode cX8_lives 29 = .ok (.aload_n 0, 1) := by decide +kernel
theorem dX8_lives_30 : decode cX8_lives 30 = .ok (.dup, 1) := by decide +kernel
theorem dX8_lives_31 : decode cX8_lives 31 = .ok (.getfield 257, 3) := by decide +kernel
theorem dX8_lives_34 : decode cX8_lives 34 = .ok (.iload_n 3, 1) := by decide +kernel
theorem dX8_lives_35 : decode cX8_lives 35 = .ok (.ior, 1) := by decide +kernel
theorem dX8_lives_36 : decode cX8_lives 36 = .ok (.putfield 257, 3) := by decide +kernel
theorem dX8_lives_39 : decode cX8_lives 39 = .ok (.aload_n 0, 1) := by decide +kernel
theorem dX8_lives_40 : decode cX8_lives 40 = .ok (.dup, 1) := by decide +kernel
theorem dX8_lives_41 : decode cX8_lives 41 = .ok (.getfield 260, 3) := by decide +kernel
theorem dX8_lives_44 : decode cX8_lives 44 = .ok (.iload_n 2, 1) := by decide +kernel
theorem dX8_lives_45 : decode cX8_lives 45 = .ok (.ior, 1) := by decide +kernel
theorem dX8_lives_46 : decode cX8_lives 46 = .ok (.putfield 260, 3) := by decide +kernel
theorem dX8_lives_49 : decode cX8_lives 49 = .ok (.aload_n 0, 1) := by decide +kernel
theorem dX8_lives_50 : decode cX8_lives 50 = .ok (.dup, 1) := by decide +kernel
theorem dX8_lives_51 : decode cX8_lives 51 = .ok (.getfield 263, 3) := by decide +kernel
theorem dX8_lives_54 : decode cX8_lives 54 = .ok (.aload_n 0, 1) := by decide +kernel
theorem dX8_lives_55 : decode cX8_lives 55 = .ok (.getfield 215, 3) := by decide +kernel
theorem dX8_lives_58 : decode cX8_lives 58 = .ok (.ior, 1) := by decide +kernel
theorem dX8_lives_59 : decode cX8_lives 59 = .ok (.putfield 263, 3) := by decide +kernel
theorem dX8_lives_62 : decode cX8_lives 62 = .ok (.aload_n 0, 1) := by decide +kernel
theorem dX8_lives_63 : decode cX8_lives 63 = .ok (.aload_n 0, 1) := by decide +kernel
theorem dX8_lives_64 : decode cX8_lives 64 = .ok (.getfield 266, 3) := by decide +kernel
theorem dX8_lives_67 : decode cX8_lives 67 = .ok (.iconst (-1), 1) := by decide +kernel
theorem dX8_lives_68 : decode cX8_lives 68 = .ok (.if_icmp .ne 32, 3) := by decide +kernel
theorem dX8_lives_71 : decode cX8_lives 71 = .ok (.aload_n 0, 1) := by decide +kernel
theorem dX8_lives_72 : decode cX8_lives 72 = .ok (.getfield 74, 3) := by decide +kernel
theorem dX8_lives_75 : decode cX8_lives 75 = .ok (.iconst (-1), 1) := by decide +kernel
theorem dX8_lives_76 : decode cX8_lives 76 = .ok (.if_icmp .eq 24, 3) := by decide +kernel
theorem dX8_lives_79 : decode cX8_lives 79 = .ok (.iload_n 3, 1) := by decide +kernel
theorem dX8_lives_80 : decode cX8_lives 80 = .ok (.aload_n 0, 1) := by decide +kernel
theorem dX8_lives_81 : decode cX8_lives 81 = .ok (.getfield 74, 3) := by decide +kernel
theorem dX8_lives_84 : decode cX8_lives 84 = .ok (.iconst 0, 1) := by decide +kernel
theorem dX8_lives_85 : decode cX8_lives 85 = .ok (.iconst 5, 1) := by decide +kernel
theorem dX8_lives_86 : decode cX8_lives 86 = .ok (.invokestatic 122, 3) := by decide +kernel
theorem dX8_lives_89 : decode cX8_lives 89 = .ok (.ishr, 1) := by decide +kernel
theorem dX8_lives_90 : decode cX8_lives 90 = .ok (.iconst 1, 1) := by decide +kernel
theorem dX8_lives_91 : decode cX8_lives 91 = .ok (.iand, 1) := by decide +kernel
theorem dX8_lives_92 : decode cX8_lives 92 = .ok (.iconst 1, 1) := by decide +kernel
theorem dX8_lives_93 : decode cX8_lives 93 = .ok (.if_icmp .ne 7, 3) := by decide +kernel
theorem dX8_lives_96 : decode cX8_lives 96 = .ok (.iload_n 1, 1) := by decide +kernel
theorem dX8_lives_97 : decode cX8_lives 97 = .ok (.goto 7, 3) := by decide +kernel
theorem dX8_lives_100 : decode cX8_lives 100 = .ok (.aload_n 0, 1) := by decide +kernel
theorem dX8_lives_101 : decode cX8_lives 101 = .ok (.getfield 266, 3) := by decide +kernel
theorem dX8_lives_104 : decode cX8_lives 104 = .ok (.putfield 266, 3) := by decide +kernel
theorem dX8_lives_107 : decode cX8_lives 107 = .ok (.aload_n 0, 1) := by decide +kernel
theorem dX8_lives_108 : decode cX8_lives 108 = .ok (.aload_n 0, 1) := by decide +kernel
theorem dX8_lives_109 : decode cX8_lives 109 = .ok (.getfield 269, 3) := by decide +kernel
theorem dX8_lives_112 : decode cX8_lives 112 = .ok (.iconst (-1), 1) := by decide +kernel
theorem dX8_lives_113 : decode cX8_lives 113 = .ok (.if_icmp .ne 33, 3) := by decide +kernel
theorem dX8_lives_116 : decode cX8_lives 116 = .ok (.aload_n 0, 1) := by decide +kernel
theorem dX8_lives_117 : decode cX8_lives 117 = .ok (.getfield 77, 3) := by decide +kernel
theorem dX8_lives_120 : decode cX8_lives 120 = .ok (.iconst (-1), 1) := by decide +kernel
theorem dX8_lives_121 : decode cX8_lives 121 = .ok (.if_icmp .eq 25, 3) := by decide +kernel
theorem dX8_lives_124 : decode cX8_lives 124 = .ok (.iload_n 2, 1) := by decide +kernel
theorem dX8_lives_125 : decode cX8_lives 125 = .ok (.aload_n 0, 1) := by decide +kernel
theorem dX8_lives_126 : decode cX8_lives 126 = .ok (.getfield 77, 3) := by decide +kernel
theorem dX8_lives_129 : decode cX8_lives 129 = .ok (.iconst 0, 1) := by decide +kernel
theorem dX8_lives_130 : decode cX8_lives 130 = .ok (.bipush 11, 2) := by decide +kernel
theorem dX8_lives_132 : decode cX8_lives 132 = .ok (.invokestatic 122, 3) := by decide +kernel
theorem dX8_lives_135 : decode cX8_lives 135 = .ok (.ishr, 1) := by decide +kernel
theorem dX8_lives_136 : decode cX8_lives 136 = .ok (.iconst 1, 1) := by decide +kernel
theorem dX8_lives_137 : decode cX8_lives 137 = .ok (.iand, 1) := by decide +kernel
theorem dX8_lives_138 : decode cX8_lives 138 = .ok (.iconst 1, 1) := by decide +kernel
theorem dX8_lives_139 : decode cX8_lives 139 = .ok (.if_icmp .ne 7, 3) := by decide +kernel
theorem dX8_lives_142 : decode cX8_lives 142 = .ok (.iload_n 1, 1) := by decide +kernel
theorem dX8_lives_143 : decode cX8_lives 143 = .ok (.goto 7, 3) := by decide +kernel
theorem dX8_lives_146 : decode cX8_lives 146 = .ok (.aload_n 0, 1) := by decide +kernel
theorem dX8_lives_147 : decode cX8_lives 147 = .ok (.getfield 269, 3) := by decide +kernel
theorem dX8_lives_150 : decode cX8_lives 150 = .ok (.putfield 269, 3) := by decide +kernel
theorem dX8_lives_153 : decode cX8_lives 153 = .ok (.return_, 1) := by decide +kernel
theorem dX8_goes_0 : decode cX8_goes 0 = .ok (.aload_n 0, 1) := by decide +kernel
theorem dX8_goes_1 : decode cX8_goes 1 = .ok (.invokevirtual 275, 3) := by decide +kernel
theorem dX8_goes_4 : decode cX8_goes 4 = .ok (.iconst 0, 1) := by decide +kernel
theorem dX8_goes_5 : decode cX8_goes 5 = .ok (.istore_n 2, 1) := by decide +kernel
theorem dX8_goes_6 : decode cX8_goes 6 = .ok (.iload_n 2, 1) := by decide +kernel
theorem dX8_goes_7 : decode cX8_goes 7 = .ok (.iload_n 1, 1) := by decide +kernel
theorem dX8_goes_8 : decode cX8_goes 8 = .ok (.if_icmp .ge 14, 3) := by decide +kernel
theorem dX8_goes_11 : decode cX8_goes 11 = .ok (.aload_n 0, 1) := by decide +kernel
theorem dX8_goes_12 : decode cX8_goes 12 = .ok (.iload_n 2, 1) := by decide +kernel
theorem dX8_goes_13 : decode cX8_goes 13 = .ok (.invokevirtual 278, 3) := by decide +kernel
theorem dX8_goes_16 : decode cX8_goes 16 = .ok (.iinc 2 1, 3) := by decide +kernel
theorem dX8_goes_19 : decode cX8_goes 19 = .ok (.goto (-13), 3) := by decide +kernel
theorem dX8_goes_22 : decode cX8_goes 22 = .ok (.aload_n 0, 1) := by decide +kernel
theorem dX8_goes_23 : decode cX8_goes 23 = .ok (.invokevirtual 281, 3) := by decide +kernel
theorem dX8_goes_26 : decode cX8_goes 26 = .ok (.aload_n 0, 1) := by decide +kernel
theorem dX8_goes_27 : decode cX8_goes 27 = .ok (.getfield 254, 3) := by decide +kernel
theorem dX8_goes_30 : decode cX8_goes 30 = .ok (.ireturn, 1) := by decide +kernel
theorem dX8_toldRun_0 : decode cX8_toldRun 0 = .ok (.iload_n 1, 1) := by decide +kernel
theorem dX8_toldRun_1 : decode cX8_toldRun 1 = .ok (.ifCond .ne 10, 3) := by decide +kernel
theorem dX8_toldRun_4 : decode cX8_toldRun 4 = .ok (.aload_n 0, 1) := by decide +kernel
theorem dX8_toldRun_5 : decode cX8_toldRun 5 = .ok (.getfield 254, 3) := by decide +kernel
theorem dX8_toldRun_8 : decode cX8_toldRun 8 = .ok (.goto 43, 3) := by decide +kernel
theorem dX8_toldRun_11 : decode cX8_toldRun 11 = .ok (.iload_n 1, 1) := by decide +kernel
theorem dX8_toldRun_12 : decode cX8_toldRun 12 = .ok (.iconst 1, 1) := by decide +kernel
theorem dX8_toldRun_13 : decode cX8_toldRun 13 = .ok (.if_icmp .ne 10, 3) := by decide +kernel
theorem dX8_toldRun_16 : decode cX8_toldRun 16 = .ok (.aload_n 0, 1) := by decide +kernel
theorem dX8_toldRun_17 : decode cX8_toldRun 17 = .ok (.getfield 257, 3) := by decide +kernel
theorem dX8_toldRun_20 : decode cX8_toldRun 20 = .ok (.goto 31, 3) := by decide +kernel
theorem dX8_toldRun_23 : decode cX8_toldRun 23 = .ok (.iload_n 1, 1) := by decide +kernel
theorem dX8_toldRun_24 : decode cX8_toldRun 24 = .ok (.iconst 2, 1) := by decide +kernel
theorem dX8_toldRun_25 : decode cX8_toldRun 25 = .ok (.if_icmp .ne 10, 3) := by decide +kernel
theorem dX8_toldRun_28 : decode cX8_toldRun 28 = .ok (.aload_n 0, 1) := by decide +kernel
theorem dX8_toldRun_29 : decode cX8_toldRun 29 = .ok (.getfield 260, 3) := by decide +kernel
theorem dX8_toldRun_32 : decode cX8_toldRun 32 = .ok (.goto 19, 3) := by decide +kernel
theorem dX8_toldRun_35 : decode cX8_toldRun 35 = .ok (.iload_n 1, 1) := by decide +kernel
theorem dX8_toldRun_36 : decode cX8_toldRun 36 = .ok (.iconst 3, 1) := by decide +kernel
theorem dX8_toldRun_37 : decode cX8_toldRun 37 = .ok (.if_icmp .ne 10, 3) := by decide +kernel
theorem dX8_toldRun_40 : decode cX8_toldRun 40 = .ok (.aload_n 0, 1) := by decide +kernel
theorem dX8_toldRun_41 : decode cX8_toldRun 41 = .ok (.getfield 263, 3) := by decide +kernel
theorem dX8_toldRun_44 : decode cX8_toldRun 44 = .ok (.goto 7, 3) := by decide +kernel
theorem dX8_toldRun_47 : decode cX8_toldRun 47 = .ok (.aload_n 0, 1) := by decide +kernel
theorem dX8_toldRun_48 : decode cX8_toldRun 48 = .ok (.getfield 272, 3) := by decide +kernel
theorem dX8_toldRun_51 : decode cX8_toldRun 51 = .ok (.ireturn, 1) := by decide +kernel
theorem dX8_run_0 : decode cX8_run 0 = .ok (.iload_n 1, 1) := by decide +kernel
theorem dX8_run_1 : decode cX8_run 1 = .ok (.iconst 0, 1) := by decide +kernel
theorem dX8_run_2 : decode cX8_run 2 = .ok (.bipush 60, 2) := by decide +kernel
theorem dX8_run_4 : decode cX8_run 4 = .ok (.invokestatic 90, 3) := by decide +kernel
theorem dX8_run_7 : decode cX8_run 7 = .ok (.ifCond .eq 12, 3) := by decide +kernel
theorem dX8_run_10 : decode cX8_run 10 = .ok (.iload_n 2, 1) := by decide +kernel
theorem dX8_run_11 : decode cX8_run 11 = .ok (.iconst 0, 1) := by decide +kernel
theorem dX8_run_12 : decode cX8_run 12 = .ok (.iconst 4, 1) := by decide +kernel
theorem dX8_run_13 : decode cX8_run 13 = .ok (.invokestatic 90, 3) := by decide +kernel
theorem dX8_run_16 : decode cX8_run 16 = .ok (.ifCond .ne 6, 3) := by decide +kernel
theorem dX8_run_19 : decode cX8_run 19 = .ok (.bipush (-2), 2) := by decide +kernel
theorem dX8_run_21 : decode cX8_run 21 = .ok (.ireturn, 1) := by decide +kernel
theorem dX8_run_22 : decode cX8_run 22 = .ok (.aload_n 0, 1) := by decide +kernel
theorem dX8_run_23 : decode cX8_run 23 = .ok (.iload_n 1, 1) := by decide +kernel
theorem dX8_run_24 : decode cX8_run 24 = .ok (.invokevirtual 284, 3) := by decide +kernel
theorem dX8_run_27 : decode cX8_run 27 = .ok (.pop, 1) := by decide +kernel
theorem dX8_run_28 : decode cX8_run 28 = .ok (.aload_n 0, 1) := by decide +kernel
theorem dX8_run_29 : decode cX8_run 29 = .ok (.iload_n 2, 1) := by decide +kernel
theorem dX8_run_30 : decode cX8_run 30 = .ok (.invokevirtual 287, 3) := by decide +kernel
theorem dX8_run_33 : decode cX8_run 33 = .ok (.ireturn, 1) := by decide +kernel
theorem dX8_when_0 : decode cX8_when 0 = .ok (.iload_n 1, 1) := by decide +kernel
theorem dX8_when_1 : decode cX8_when 1 = .ok (.ifCond .eq 8, 3) := by decide +kernel
theorem dX8_when_4 : decode cX8_when 4 = .ok (.iload_n 1, 1) := by decide +kernel
theorem dX8_when_5 : decode cX8_when 5 = .ok (.iconst 1, 1) := by decide +kernel
theorem dX8_when_6 : decode cX8_when 6 = .ok (.if_icmp .ne 26, 3) := by decide +kernel
theorem dX8_when_9 : decode cX8_when 9 = .ok (.iload_n 1, 1) := by decide +kernel
theorem dX8_when_10 : decode cX8_when 10 = .ok (.ifCond .ne 14, 3) := by decide +kernel
theorem dX8_when_13 : decode cX8_when 13 = .ok (.aload_n 0, 1) := by decide +kernel
theorem dX8_when_14 : decode cX8_when 14 = .ok (.iload_n 2, 1) := by decide +kernel
theorem dX8_when_15 : decode cX8_when 15 = .ok (.invokevirtual 201, 3) := by decide +kernel
theorem dX8_when_18 : decode cX8_when 18 = .ok (.ifCond .ne 17, 3) := by decide +kernel
theorem dX8_when_21 : decode cX8_when 21 = .ok (.goto 11, 3) := by decide +kernel
theorem dX8_when_24 : decode cX8_when 24 = .ok (.aload_n 0, 1) := by decide +kernel
theorem dX8_when_25 : decode cX8_when 25 = .ok (.iload_n 2, 1) := by decide +kernel
theorem dX8_when_26 : decode cX8_when 26 = .ok (.invokevirtual 233, 3) := by decide +kernel
theorem dX8_when_29 : decode cX8_when 29 = .ok (.ifCond .ne 6, 3) := by decide +kernel
theorem dX8_when_32 : decode cX8_when 32 = .ok (.bipush (-5), 2) := by decide +kernel
theorem dX8_when_34 : decode cX8_when 34 = .ok (.ireturn, 1) := by decide +kernel
theorem dX8_when_35 : decode cX8_when 35 = .ok (.iload_n 3, 1) := by decide +kernel
theorem dX8_when_36 : decode cX8_when 36 = .ok (.iconst 0, 1) := by decide +kernel
theorem dX8_when_37 : decode cX8_when 37 = .ok (.bipush 60, 2) := by decide +kernel
theorem dX8_when_39 : decode cX8_when 39 = .ok (.invokestatic 90, 3) := by decide +kernel
theorem dX8_when_42 : decode cX8_when 42 = .ok (.ifCond .ne 6, 3) := by decide +kernel
theorem dX8_when_45 : decode cX8_when 45 = .ok (.bipush (-7), 2) := by decide +kernel
theorem dX8_when_47 : decode cX8_when 47 = .ok (.ireturn, 1) := by decide +kernel
theorem dX8_when_48 : decode cX8_when 48 = .ok (.aload_n 0, 1) := by decide +kernel
theorem dX8_when_49 : decode cX8_when 49 = .ok (.iload_n 1, 1) := by decide +kernel
theorem dX8_when_50 : decode cX8_when 50 = .ok (.ifCond .ne 7, 3) := by decide +kernel
theorem dX8_when_53 : decode cX8_when 53 = .ok (.iload_n 2, 1) := by decide +kernel
theorem dX8_when_54 : decode cX8_when 54 = .ok (.goto 4, 3) := by decide +kernel
theorem dX8_when_57 : decode cX8_when 57 = .ok (.iconst (-1), 1) := by decide +kernel
theorem dX8_when_58 : decode cX8_when 58 = .ok (.putfield 77, 3) := by decide +kernel
theorem dX8_when_61 : decode cX8_when 61 = .ok (.aload_n 0, 1) := by decide +kernel
theorem dX8_when_62 : decode cX8_when 62 = .ok (.iload_n 1, 1) := by decide +kernel
theorem dX8_when_63 : decode cX8_when 63 = .ok (.iconst 1, 1) := by decide +kernel
theorem dX8_when_64 : decode cX8_when 64 = .ok (.if_icmp .ne 7, 3) := by decide +kernel
theorem dX8_when_67 : decode cX8_when 67 = .ok (.iload_n 2, 1) := by decide +kernel
theorem dX8_when_68 : decode cX8_when 68 = .ok (.goto 4, 3) := by decide +kernel
theorem dX8_when_71 : decode cX8_when 71 = .ok (.iconst (-1), 1) := by decide +kernel
theorem dX8_when_72 : decode cX8_when 72 = .ok (.putfield 74, 3) := by decide +kernel
theorem dX8_when_75 : decode cX8_when 75 = .ok (.aload_n 0, 1) := by decide +kernel
theorem dX8_when_76 : decode cX8_when 76 = .ok (.iload_n 3, 1) := by decide +kernel
theorem dX8_when_77 : decode cX8_when 77 = .ok (.invokevirtual 284, 3) := by decide +kernel
theorem dX8_when_80 : decode cX8_when 80 = .ok (.pop, 1) := by decide +kernel
theorem dX8_when_81 : decode cX8_when 81 = .ok (.aload_n 0, 1) := by decide +kernel
theorem dX8_when_82 : decode cX8_when 82 = .ok (.iconst (-1), 1) := by decide +kernel
theorem dX8_when_83 : decode cX8_when 83 = .ok (.putfield 77, 3) := by decide +kernel
theorem dX8_when_86 : decode cX8_when 86 = .ok (.aload_n 0, 1) := by decide +kernel
theorem dX8_when_87 : decode cX8_when 87 = .ok (.iconst (-1), 1) := by decide +kernel
theorem dX8_when_88 : decode cX8_when 88 = .ok (.putfield 74, 3) := by decide +kernel
theorem dX8_when_91 : decode cX8_when 91 = .ok (.iload_n 1, 1) := by decide +kernel
theorem dX8_when_92 : decode cX8_when 92 = .ok (.ifCond .ne 10, 3) := by decide +kernel
theorem dX8_when_95 : decode cX8_when 95 = .ok (.aload_n 0, 1) := by decide +kernel
theorem dX8_when_96 : decode cX8_when 96 = .ok (.getfield 269, 3) := by decide +kernel
theorem dX8_when_99 : decode cX8_when 99 = .ok (.goto 7, 3) := by decide +kernel
theorem dX8_when_102 : decode cX8_when 102 = .ok (.aload_n 0, 1) := by decide +kernel
theorem dX8_when_103 : decode cX8_when 103 = .ok (.getfield 266, 3) := by decide +kernel
theorem dX8_when_106 : decode cX8_when 106 = .ok (.ireturn, 1) := by decide +kernel
theorem dX8_goesFrom_0 : decode cX8_goesFrom 0 = .ok (.aload_n 0, 1) := by decide +kernel
theorem dX8_goesFrom_1 : decode cX8_goesFrom 1 = .ok (.getfield 104, 3) := by decide +kernel
theorem dX8_goesFrom_4 : decode cX8_goesFrom 4 = .ok (.istore 4, 2) := by decide +kernel
theorem dX8_goesFrom_6 : decode cX8_goesFrom 6 = .ok (.aload_n 0, 1) := by decide +kernel
theorem dX8_goesFrom_7 : decode cX8_goesFrom 7 = .ok (.getfield 22, 3) := by decide +kernel
theorem dX8_goesFrom_10 : decode cX8_goesFrom 10 = .ok (.istore 5, 2) := by decide +kernel
theorem dX8_goesFrom_12 : decode cX8_goesFrom 12 = .ok (.aload_n 0, 1) := by decide +kernel
theorem dX8_goesFrom_13 : decode cX8_goesFrom 13 = .ok (.iload_n 1, 1) := by decide +kernel
theorem dX8_goesFrom_14 : decode cX8_goesFrom 14 = .ok (.putfield 104, 3) := by decide +kernel
theorem dX8_goesFrom_17 : decode cX8_goesFrom 17 = .ok (.aload_n 0, 1) := by decide +kernel
theorem dX8_goesFrom_18 : decode cX8_goesFrom 18 = .ok (.iload_n 2, 1) := by decide +kernel
theorem dX8_goesFrom_19 : decode cX8_goesFrom 19 = .ok (.putfield 22, 3) := by decide +kernel
theorem dX8_goesFrom_22 : decode cX8_goesFrom 22 = .ok (.aload_n 0, 1) := by decide +kernel
theorem dX8_goesFrom_23 : decode cX8_goesFrom 23 = .ok (.iload_n 3, 1) := by decide +kernel
theorem dX8_goesFrom_24 : decode cX8_goesFrom 24 = .ok (.invokevirtual 284, 3) := by decide +kernel
theorem dX8_goesFrom_27 : decode cX8_goesFrom 27 = .ok (.istore 6, 2) := by decide +kernel
theorem dX8_goesFrom_29 : decode cX8_goesFrom 29 = .ok (.aload_n 0, 1) := by decide +kernel
theorem dX8_goesFrom_30 : decode cX8_goesFrom 30 = .ok (.iload 4, 2) := by decide +kernel
theorem dX8_goesFrom_32 : decode cX8_goesFrom 32 = .ok (.putfield 104, 3) := by decide +kernel
theorem dX8_goesFrom_35 : decode cX8_goesFrom 35 = .ok (.aload_n 0, 1) := by decide +kernel
theorem dX8_goesFrom_36 : decode cX8_goesFrom 36 = .ok (.iload 5, 2) := by decide +kernel
theorem dX8_goesFrom_38 : decode cX8_goesFrom 38 = .ok (.putfield 22, 3) := by decide +kernel
theorem dX8_goesFrom_41 : decode cX8_goesFrom 41 = .ok (.iload 6, 2) := by decide +kernel
theorem dX8_goesFrom_43 : decode cX8_goesFrom 43 = .ok (.ireturn, 1) := by decide +kernel
theorem dX8_begin_0 : decode cX8_begin 0 = .ok (.iload_n 1, 1) := by decide +kernel
theorem dX8_begin_1 : decode cX8_begin 1 = .ok (.iconst 0, 1) := by decide +kernel
theorem dX8_begin_2 : decode cX8_begin 2 = .ok (.bipush 60, 2) := by decide +kernel
theorem dX8_begin_4 : decode cX8_begin 4 = .ok (.invokestatic 90, 3) := by decide +kernel
theorem dX8_begin_7 : decode cX8_begin 7 = .ok (.ifCond .eq 12, 3) := by decide +kernel
theorem dX8_begin_10 : decode cX8_begin 10 = .ok (.iload_n 2, 1) := by decide +kernel
theorem dX8_begin_11 : decode cX8_begin 11 = .ok (.iconst 0, 1) := by decide +kernel
theorem dX8_begin_12 : decode cX8_begin 12 = .ok (.iconst 1, 1) := by decide +kernel
theorem dX8_begin_13 : decode cX8_begin 13 = .ok (.invokestatic 90, 3) := by decide +kernel
theorem dX8_begin_16 : decode cX8_begin 16 = .ok (.ifCond .ne 6, 3) := by decide +kernel
theorem dX8_begin_19 : decode cX8_begin 19 = .ok (.bipush (-2), 2) := by decide +kernel
theorem dX8_begin_21 : decode cX8_begin 21 = .ok (.ireturn, 1) := by decide +kernel
theorem dX8_begin_22 : decode cX8_begin 22 = .ok (.iconst (-1), 1) := by decide +kernel
theorem dX8_begin_23 : decode cX8_begin 23 = .ok (.istore_n 3, 1) := by decide +kernel
theorem dX8_begin_24 : decode cX8_begin 24 = .ok (.iconst 0, 1) := by decide +kernel
theorem dX8_begin_25 : decode cX8_begin 25 = .ok (.istore 4, 2) := by decide +kernel
theorem dX8_begin_27 : decode cX8_begin 27 = .ok (.iconst 0, 1) := by decide +kernel
theorem dX8_begin_28 : decode cX8_begin 28 = .ok (.istore 5, 2) := by decide +kernel
theorem dX8_begin_30 : decode cX8_begin 30 = .ok (.iload 5, 2) := by decide +kernel
theorem dX8_begin_32 : decode cX8_begin 32 = .ok (.aload_n 0, 1) := by decide +kernel
theorem dX8_begin_33 : decode cX8_begin 33 = .ok (.getfield 87, 3) := by decide +kernel
theorem dX8_begin_36 : decode cX8_begin 36 = .ok (.if_icmp .ge 68, 3) := by decide +kernel
theorem dX8_begin_39 : decode cX8_begin 39 = .ok (.aload_n 0, 1) := by decide +kernel
theorem dX8_begin_40 : decode cX8_begin 40 = .ok (.aload_n 0, 1) := by decide +kernel
theorem dX8_begin_41 : decode cX8_begin 41 = .ok (.iload 5, 2) := by decide +kernel
theorem dX8_begin_43 : decode cX8_begin 43 = .ok (.invokevirtual 101, 3) := by decide +kernel
theorem dX8_begin_46 : decode cX8_begin 46 = .ok (.iconst (-1), 1) := by decide +kernel
theorem dX8_begin_47 : decode cX8_begin 47 = .ok (.iload_n 1, 1) := by decide +kernel
theorem dX8_begin_48 : decode cX8_begin 48 = .ok (.invokevirtual 290, 3) := by decide +kernel
theorem dX8_begin_51 : decode cX8_begin 51 = .ok (.istore 6, 2) := by decide +kernel
theorem dX8_begin_53 : decode cX8_begin 53 = .ok (.iload_n 3, 1) := by decide +kernel
theorem dX8_begin_54 : decode cX8_begin 54 = .ok (.iconst (-1), 1) := by decide +kernel
theorem dX8_begin_55 : decode cX8_begin 55 = .ok (.if_icmp .eq 10, 3) := by decide +kernel
theorem dX8_begin_58 : decode cX8_begin 58 = .ok (.iload 6, 2) := by decide +kernel
theorem dX8_begin_60 : decode cX8_begin 60 = .ok (.iload 4, 2) := by decide +kernel
theorem dX8_begin_62 : decode cX8_begin 62 = .ok (.if_icmp .le 7, 3) := by decide +kernel
theorem dX8_begin_65 : decode cX8_begin 65 = .ok (.iconst 1, 1) := by decide +kernel
theorem dX8_begin_66 : decode cX8_begin 66 = .ok (.goto 4, 3) := by decide +kernel
theorem dX8_begin_69 : decode cX8_begin 69 = .ok (.iconst 0, 1) := by decide +kernel
theorem dX8_begin_70 : decode cX8_begin 70 = .ok (.istore 7, 2) := by decide +kernel
theorem dX8_begin_72 : decode cX8_begin 72 = .ok (.iload 7, 2) := by decide +kernel
theorem dX8_begin_74 : decode cX8_begin 74 = .ok (.ifCond .eq 8, 3) := by decide +kernel
theorem dX8_begin_77 : decode cX8_begin 77 = .ok (.iload 5, 2) := by decide +kernel
theorem dX8_begin_79 : decode cX8_begin 79 = .ok (.goto 4, 3) := by decide +kernel
theorem dX8_begin_82 : decode cX8_begin 82 = .ok (.iload_n 3, 1) := by decide +kernel
theorem dX8_begin_83 : decode cX8_begin 83 = .ok (.istore_n 3, 1) := by decide +kernel
theorem dX8_begin_84 : decode cX8_begin 84 = .ok (.iload 7, 2) := by decide +kernel
theorem dX8_begin_86 : decode cX8_begin 86 = .ok (.ifCond .eq 8, 3) := by decide +kernel
theorem dX8_begin_89 : decode cX8_begin 89 = .ok (.iload 6, 2) := by decide +kernel
theorem dX8_begin_91 : decode cX8_begin 91 = .ok (.goto 5, 3) := by decide +kernel
theorem dX8_begin_94 : decode cX8_begin 94 = .ok (.iload 4, 2) := by decide +kernel
theorem dX8_begin_96 : decode cX8_begin 96 = .ok (.istore 4, 2) := by decide +kernel
theorem dX8_begin_98 : decode cX8_begin 98 = .ok (.iinc 5 1, 3) := by decide +kernel
theorem dX8_begin_101 : decode cX8_begin 101 = .ok (.goto (-71), 3) := by decide +kernel
theorem dX8_begin_104 : decode cX8_begin 104 = .ok (.iload_n 2, 1) := by decide +kernel
theorem dX8_begin_105 : decode cX8_begin 105 = .ok (.ifCond .ne 7, 3) := by decide +kernel
theorem dX8_begin_108 : decode cX8_begin 108 = .ok (.iload_n 3, 1) := by decide +kernel
theorem dX8_begin_109 : decode cX8_begin 109 = .ok (.goto 5, 3) := by decide +kernel
theorem dX8_begin_112 : decode cX8_begin 112 = .ok (.iload 4, 2) := by decide +kernel
theorem dX8_begin_114 : decode cX8_begin 114 = .ok (.ireturn, 1) := by decide +kernel
theorem dX8_lobby_0 : decode cX8_lobby 0 = .ok (.iload_n 1, 1) := by decide +kernel
theorem dX8_lobby_1 : decode cX8_lobby 1 = .ok (.iconst 0, 1) := by decide +kernel
theorem dX8_lobby_2 : decode cX8_lobby 2 = .ok (.bipush 60, 2) := by decide +kernel
theorem dX8_lobby_4 : decode cX8_lobby 4 = .ok (.invokestatic 90, 3) := by decide +kernel
theorem dX8_lobby_7 : decode cX8_lobby 7 = .ok (.ifCond .eq 12, 3) := by decide +kernel
theorem dX8_lobby_10 : decode cX8_lobby 10 = .ok (.iload_n 2, 1) := by decide +kernel
theorem dX8_lobby_11 : decode cX8_lobby 11 = .ok (.iconst 0, 1) := by decide +kernel
theorem dX8_lobby_12 : decode cX8_lobby 12 = .ok (.iconst 1, 1) := by decide +kernel
theorem dX8_lobby_13 : decode cX8_lobby 13 = .ok (.invokestatic 90, 3) := by decide +kernel
theorem dX8_lobby_16 : decode cX8_lobby 16 = .ok (.ifCond .ne 6, 3) := by decide +kernel
theorem dX8_lobby_19 : decode cX8_lobby 19 = .ok (.bipush (-2), 2) := by decide +kernel
theorem dX8_lobby_21 : decode cX8_lobby 21 = .ok (.ireturn, 1) := by decide +kernel
theorem dX8_lobby_22 : decode cX8_lobby 22 = .ok (.iconst (-1), 1) := by decide +kernel
theorem dX8_lobby_23 : decode cX8_lobby 23 = .ok (.istore_n 3, 1) := by decide +kernel
theorem dX8_lobby_24 : decode cX8_lobby 24 = .ok (.aload_n 0, 1) := by decide +kernel
theorem dX8_lobby_25 : decode cX8_lobby 25 = .ok (.iload_n 1, 1) := by decide +kernel
theorem dX8_lobby_26 : decode cX8_lobby 26 = .ok (.invokevirtual 284, 3) := by decide +kernel
theorem dX8_lobby_29 : decode cX8_lobby 29 = .ok (.istore 4, 2) := by decide +kernel
theorem dX8_lobby_31 : decode cX8_lobby 31 = .ok (.iconst 0, 1) := by decide +kernel
theorem dX8_lobby_32 : decode cX8_lobby 32 = .ok (.istore 5, 2) := by decide +kernel
theorem dX8_lobby_34 : decode cX8_lobby 34 = .ok (.iload 5, 2) := by decide +kernel
theorem dX8_lobby_36 : decode cX8_lobby 36 = .ok (.aload_n 0, 1) := by decide +kernel
theorem dX8_lobby_37 : decode cX8_lobby 37 = .ok (.getfield 87, 3) := by decide +kernel
theorem dX8_lobby_40 : decode cX8_lobby 40 = .ok (.if_icmp .ge 52, 3) := by decide +kernel
theorem dX8_lobby_43 : decode cX8_lobby 43 = .ok (.aload_n 0, 1) := by decide +kernel
theorem dX8_lobby_44 : decode cX8_lobby 44 = .ok (.aload_n 0, 1) := by decide +kernel
theorem dX8_lobby_45 : decode cX8_lobby 45 = .ok (.getfield 104, 3) := by decide +kernel
theorem dX8_lobby_48 : decode cX8_lobby 48 = .ok (.iload 5, 2) := by decide +kernel
theorem dX8_lobby_50 : decode cX8_lobby 50 = .ok (.iload_n 1, 1) := by decide +kernel
theorem dX8_lobby_51 : decode cX8_lobby 51 = .ok (.invokevirtual 290, 3) := by decide +kernel
theorem dX8_lobby_54 : decode cX8_lobby 54 = .ok (.istore 6, 2) := by decide +kernel
theorem dX8_lobby_56 : decode cX8_lobby 56 = .ok (.iload 6, 2) := by decide +kernel
theorem dX8_lobby_58 : decode cX8_lobby 58 = .ok (.iload 4, 2) := by decide +kernel
theorem dX8_lobby_60 : decode cX8_lobby 60 = .ok (.if_icmp .le 8, 3) := by decide +kernel
theorem dX8_lobby_63 : decode cX8_lobby 63 = .ok (.iload 5, 2) := by decide +kernel
theorem dX8_lobby_65 : decode cX8_lobby 65 = .ok (.goto 4, 3) := by decide +kernel
theorem dX8_lobby_68 : decode cX8_lobby 68 = .ok (.iload_n 3, 1) := by decide +kernel
theorem dX8_lobby_69 : decode cX8_lobby 69 = .ok (.istore_n 3, 1) := by decide +kernel
theorem dX8_lobby_70 : decode cX8_lobby 70 = .ok (.iload 6, 2) := by decide +kernel
theorem dX8_lobby_72 : decode cX8_lobby 72 = .ok (.iload 4, 2) := by decide +kernel
theorem dX8_lobby_74 : decode cX8_lobby 74 = .ok (.if_icmp .le 8, 3) := by decide +kernel
theorem dX8_lobby_77 : decode cX8_lobby 77 = .ok (.iload 6, 2) := by decide +kernel
theorem dX8_lobby_79 : decode cX8_lobby 79 = .ok (.goto 5, 3) := by decide +kernel
theorem dX8_lobby_82 : decode cX8_lobby 82 = .ok (.iload 4, 2) := by decide +kernel
theorem dX8_lobby_84 : decode cX8_lobby 84 = .ok (.istore 4, 2) := by decide +kernel
theorem dX8_lobby_86 : decode cX8_lobby 86 = .ok (.iinc 5 1, 3) := by decide +kernel
theorem dX8_lobby_89 : decode cX8_lobby 89 = .ok (.goto (-55), 3) := by decide +kernel
theorem dX8_lobby_92 : decode cX8_lobby 92 = .ok (.iload_n 2, 1) := by decide +kernel
theorem dX8_lobby_93 : decode cX8_lobby 93 = .ok (.ifCond .ne 7, 3) := by decide +kernel
theorem dX8_lobby_96 : decode cX8_lobby 96 = .ok (.iload_n 3, 1) := by decide +kernel
theorem dX8_lobby_97 : decode cX8_lobby 97 = .ok (.goto 5, 3) := by decide +kernel
theorem dX8_lobby_100 : decode cX8_lobby 100 = .ok (.iload 4, 2) := by decide +kernel
theorem dX8_lobby_102 : decode cX8_lobby 102 = .ok (.ireturn, 1) := by decide +kernel
theorem dX8_soup_0 : decode cX8_soup 0 = .ok (.iload_n 1, 1) := by decide +kernel
theorem dX8_soup_1 : decode cX8_soup 1 = .ok (.iconst 0, 1) := by decide +kernel
theorem dX8_soup_2 : decode cX8_soup 2 = .ok (.bipush 60, 2) := by decide +kernel
theorem dX8_soup_4 : decode cX8_soup 4 = .ok (.invokestatic 90, 3) := by decide +kernel
theorem dX8_soup_7 : decode cX8_soup 7 = .ok (.ifCond .eq 12, 3) := by decide +kernel
theorem dX8_soup_10 : decode cX8_soup 10 = .ok (.iload_n 2, 1) := by decide +kernel
theorem dX8_soup_11 : decode cX8_soup 11 = .ok (.iconst 0, 1) := by decide +kernel
theorem dX8_soup_12 : decode cX8_soup 12 = .ok (.iconst 1, 1) := by decide +kernel
theorem dX8_soup_13 : decode cX8_soup 13 = .ok (.invokestatic 90, 3) := by decide +kernel
theorem dX8_soup_16 : decode cX8_soup 16 = .ok (.ifCond .ne 6, 3) := by decide +kernel
theorem dX8_soup_19 : decode cX8_soup 19 = .ok (.bipush (-2), 2) := by decide +kernel
theorem dX8_soup_21 : decode cX8_soup 21 = .ok (.ireturn, 1) := by decide +kernel
theorem dX8_soup_22 : decode cX8_soup 22 = .ok (.aload_n 0, 1) := by decide +kernel
theorem dX8_soup_23 : decode cX8_soup 23 = .ok (.getfield 110, 3) := by decide +kernel
theorem dX8_soup_26 : decode cX8_soup 26 = .ok (.istore_n 3, 1) := by decide +kernel
theorem dX8_soup_27 : decode cX8_soup 27 = .ok (.iconst (-1), 1) := by decide +kernel
theorem dX8_soup_28 : decode cX8_soup 28 = .ok (.istore 4, 2) := by decide +kernel
theorem dX8_soup_30 : decode cX8_soup 30 = .ok (.aload_n 0, 1) := by decide +kernel
theorem dX8_soup_31 : decode cX8_soup 31 = .ok (.iload_n 1, 1) := by decide +kernel
theorem dX8_soup_32 : decode cX8_soup 32 = .ok (.invokevirtual 284, 3) := by decide +kernel
theorem dX8_soup_35 : decode cX8_soup 35 = .ok (.istore 5, 2) := by decide +kernel
theorem dX8_soup_37 : decode cX8_soup 37 = .ok (.iconst 0, 1) := by decide +kernel
theorem dX8_soup_38 : decode cX8_soup 38 = .ok (.istore 6, 2) := by decide +kernel
theorem dX8_soup_40 : decode cX8_soup 40 = .ok (.iload 6, 2) := by decide +kernel
theorem dX8_soup_42 : decode cX8_soup 42 = .ok (.aload_n 0, 1) := by decide +kernel
theorem dX8_soup_43 : decode cX8_soup 43 = .ok (.getfield 87, 3) := by decide +kernel
theorem dX8_soup_46 : decode cX8_soup 46 = .ok (.if_icmp .ge 58, 3) := by decide +kernel
theorem dX8_soup_49 : decode cX8_soup 49 = .ok (.aload_n 0, 1) := by decide +kernel
theorem dX8_soup_50 : decode cX8_soup 50 = .ok (.iload_n 3, 1) := by decide +kernel
theorem dX8_soup_51 : decode cX8_soup 51 = .ok (.iconst 1, 1) := by decide +kernel
theorem dX8_soup_52 : decode cX8_soup 52 = .ok (.iload 6, 2) := by decide +kernel
theorem dX8_soup_54 : decode cX8_soup 54 = .ok (.ishl, 1) := by decide +kernel
theorem dX8_soup_55 : decode cX8_soup 55 = .ok (.ior, 1) := by decide +kernel
theorem dX8_soup_56 : decode cX8_soup 56 = .ok (.putfield 110, 3) := by decide +kernel
theorem dX8_soup_59 : decode cX8_soup 59 = .ok (.aload_n 0, 1) := by decide +kernel
theorem dX8_soup_60 : decode cX8_soup 60 = .ok (.iload_n 1, 1) := by decide +kernel
theorem dX8_soup_61 : decode cX8_soup 61 = .ok (.invokevirtual 284, 3) := by decide +kernel
theorem dX8_soup_64 : decode cX8_soup 64 = .ok (.istore 7, 2) := by decide +kernel
theorem dX8_soup_66 : decode cX8_soup 66 = .ok (.iload 7, 2) := by decide +kernel
theorem dX8_soup_68 : decode cX8_soup 68 = .ok (.iload 5, 2) := by decide +kernel
theorem dX8_soup_70 : decode cX8_soup 70 = .ok (.if_icmp .ge 8, 3) := by decide +kernel
theorem dX8_soup_73 : decode cX8_soup 73 = .ok (.iload 6, 2) := by decide +kernel
theorem dX8_soup_75 : decode cX8_soup 75 = .ok (.goto 5, 3) := by decide +kernel
theorem dX8_soup_78 : decode cX8_soup 78 = .ok (.iload 4, 2) := by decide +kernel
theorem dX8_soup_80 : decode cX8_soup 80 = .ok (.istore 4, 2) := by decide +kernel
theorem dX8_soup_82 : decode cX8_soup 82 = .ok (.iload 7, 2) := by decide +kernel
theorem dX8_soup_84 : decode cX8_soup 84 = .ok (.iload 5, 2) := by decide +kernel
theorem dX8_soup_86 : decode cX8_soup 86 = .ok (.if_icmp .ge 8, 3) := by decide +kernel
theorem dX8_soup_89 : decode cX8_soup 89 = .ok (.iload 7, 2) := by decide +kernel
theorem dX8_soup_91 : decode cX8_soup 91 = .ok (.goto 5, 3) := by decide +kernel
theorem dX8_soup_94 : decode cX8_soup 94 = .ok (.iload 5, 2) := by decide +kernel
theorem dX8_soup_96 : decode cX8_soup 96 = .ok (.istore 5, 2) := by decide +kernel
theorem dX8_soup_98 : decode cX8_soup 98 = .ok (.iinc 6 1, 3) := by decide +kernel
theorem dX8_soup_101 : decode cX8_soup 101 = .ok (.goto (-61), 3) := by decide +kernel
theorem dX8_soup_104 : decode cX8_soup 104 = .ok (.aload_n 0, 1) := by decide +kernel
theorem dX8_soup_105 : decode cX8_soup 105 = .ok (.iload_n 3, 1) := by decide +kernel
theorem dX8_soup_106 : decode cX8_soup 106 = .ok (.putfield 110, 3) := by decide +kernel
theorem dX8_soup_109 : decode cX8_soup 109 = .ok (.iload_n 2, 1) := by decide +kernel
theorem dX8_soup_110 : decode cX8_soup 110 = .ok (.ifCond .ne 8, 3) := by decide +kernel
theorem dX8_soup_113 : decode cX8_soup 113 = .ok (.iload 4, 2) := by decide +kernel
theorem dX8_soup_115 : decode cX8_soup 115 = .ok (.goto 5, 3) := by decide +kernel
theorem dX8_soup_118 : decode cX8_soup 118 = .ok (.iload 5, 2) := by decide +kernel
theorem dX8_soup_120 : decode cX8_soup 120 = .ok (.ireturn, 1) := by decide +kernel
theorem dX8_goesTo_0 : decode cX8_goesTo 0 = .ok (.aload_n 0, 1) := by decide +kernel
theorem dX8_goesTo_1 : decode cX8_goesTo 1 = .ok (.getfield 16, 3) := by decide +kernel
theorem dX8_goesTo_4 : decode cX8_goesTo 4 = .ok (.iconst 3, 1) := by decide +kernel
theorem dX8_goesTo_5 : decode cX8_goesTo 5 = .ok (.iload_n 1, 1) := by decide +kernel
theorem dX8_goesTo_6 : decode cX8_goesTo 6 = .ok (.imul, 1) := by decide +kernel
theorem dX8_goesTo_7 : decode cX8_goesTo 7 = .ok (.iconst 1, 1) := by decide +kernel
theorem dX8_goesTo_8 : decode cX8_goesTo 8 = .ok (.iadd, 1) := by decide +kernel
theorem dX8_goesTo_9 : decode cX8_goesTo 9 = .ok (.iaload, 1) := by decide +kernel
theorem dX8_goesTo_10 : decode cX8_goesTo 10 = .ok (.istore 4, 2) := by decide +kernel
theorem dX8_goesTo_12 : decode cX8_goesTo 12 = .ok (.aload_n 0, 1) := by decide +kernel
theorem dX8_goesTo_13 : decode cX8_goesTo 13 = .ok (.getfield 16, 3) := by decide +kernel
theorem dX8_goesTo_16 : decode cX8_goesTo 16 = .ok (.iconst 3, 1) := by decide +kernel
theorem dX8_goesTo_17 : decode cX8_goesTo 17 = .ok (.iload_n 1, 1) := by decide +kernel
theorem dX8_goesTo_18 : decode cX8_goesTo 18 = .ok (.imul, 1) := by decide +kernel
theorem dX8_goesTo_19 : decode cX8_goesTo 19 = .ok (.iconst 1, 1) := by decide +kernel
theorem dX8_goesTo_20 : decode cX8_goesTo 20 = .ok (.iadd, 1) := by decide +kernel
theorem dX8_goesTo_21 : decode cX8_goesTo 21 = .ok (.iload_n 2, 1) := by decide +kernel
theorem dX8_goesTo_22 : decode cX8_goesTo 22 = .ok (.iastore, 1) := by decide +kernel
theorem dX8_goesTo_23 : decode cX8_goesTo 23 = .ok (.aload_n 0, 1) := by decide +kernel
theorem dX8_goesTo_24 : decode cX8_goesTo 24 = .ok (.iload_n 3, 1) := by decide +kernel
theorem dX8_goesTo_25 : decode cX8_goesTo 25 = .ok (.invokevirtual 284, 3) := by decide +kernel
theorem dX8_goesTo_28 : decode cX8_goesTo 28 = .ok (.istore 5, 2) := by decide +kernel
theorem dX8_goesTo_30 : decode cX8_goesTo 30 = .ok (.aload_n 0, 1) := by decide +kernel
theorem dX8_goesTo_31 : decode cX8_goesTo 31 = .ok (.getfield 16, 3) := by decide +kernel
theorem dX8_goesTo_34 : decode cX8_goesTo 34 = .ok (.iconst 3, 1) := by decide +kernel
theorem dX8_goesTo_35 : decode cX8_goesTo 35 = .ok (.iload_n 1, 1) := by decide +kernel
theorem dX8_goesTo_36 : decode cX8_goesTo 36 = .ok (.imul, 1) := by decide +kernel
theorem dX8_goesTo_37 : decode cX8_goesTo 37 = .ok (.iconst 1, 1) := by decide +kernel
theorem dX8_goesTo_38 : decode cX8_goesTo 38 = .ok (.iadd, 1) := by decide +kernel
theorem dX8_goesTo_39 : decode cX8_goesTo 39 = .ok (.iload 4, 2) := by decide +kernel
theorem dX8_goesTo_41 : decode cX8_goesTo 41 = .ok (.iastore, 1) := by decide +kernel
theorem dX8_goesTo_42 : decode cX8_goesTo 42 = .ok (.iload 5, 2) := by decide +kernel
theorem dX8_goesTo_44 : decode cX8_goesTo 44 = .ok (.ireturn, 1) := by decide +kernel
theorem dX8_road_0 : decode cX8_road 0 = .ok (.aload_n 0, 1) := by decide +kernel
theorem dX8_road_1 : decode cX8_road 1 = .ok (.iload_n 1, 1) := by decide +kernel
theorem dX8_road_2 : decode cX8_road 2 = .ok (.invokevirtual 201, 3) := by decide +kernel
theorem dX8_road_5 : decode cX8_road 5 = .ok (.ifCond .ne 6, 3) := by decide +kernel
theorem dX8_road_8 : decode cX8_road 8 = .ok (.bipush (-5), 2) := by decide +kernel
theorem dX8_road_10 : decode cX8_road 10 = .ok (.ireturn, 1) := by decide +kernel
theorem dX8_road_11 : decode cX8_road 11 = .ok (.iload_n 2, 1) := by decide +kernel
theorem dX8_road_12 : decode cX8_road 12 = .ok (.iconst 0, 1) := by decide +kernel
theorem dX8_road_13 : decode cX8_road 13 = .ok (.bipush 60, 2) := by decide +kernel
theorem dX8_road_15 : decode cX8_road 15 = .ok (.invokestatic 90, 3) := by decide +kernel
theorem dX8_road_18 : decode cX8_road 18 = .ok (.ifCond .eq 12, 3) := by decide +kernel
theorem dX8_road_21 : decode cX8_road 21 = .ok (.iload_n 3, 1) := by decide +kernel
theorem dX8_road_22 : decode cX8_road 22 = .ok (.iconst 0, 1) := by decide +kernel
theorem dX8_road_23 : decode cX8_road 23 = .ok (.iconst 1, 1) := by decide +kernel
theorem dX8_road_24 : decode cX8_road 24 = .ok (.invokestatic 90, 3) := by decide +kernel
theorem dX8_road_27 : decode cX8_road 27 = .ok (.ifCond .ne 6, 3) := by decide +kernel
theorem dX8_road_30 : decode cX8_road 30 = .ok (.bipush (-7), 2) := by decide +kernel
theorem dX8_road_32 : decode cX8_road 32 = .ok (.ireturn, 1) := by decide +kernel
theorem dX8_road_33 : decode cX8_road 33 = .ok (.iconst (-1), 1) := by decide +kernel
theorem dX8_road_34 : decode cX8_road 34 = .ok (.istore 4, 2) := by decide +kernel
theorem dX8_road_36 : decode cX8_road 36 = .ok (.aload_n 0, 1) := by decide +kernel
theorem dX8_road_37 : decode cX8_road 37 = .ok (.iload_n 2, 1) := by decide +kernel
theorem dX8_road_38 : decode cX8_road 38 = .ok (.invokevirtual 284, 3) := by decide +kernel
theorem dX8_road_41 : decode cX8_road 41 = .ok (.istore 5, 2) := by decide +kernel
theorem dX8_road_43 : decode cX8_road 43 = .ok (.iconst (-1), 1) := by decide +kernel
theorem dX8_road_44 : decode cX8_road 44 = .ok (.istore 6, 2) := by decide +kernel
theorem dX8_road_46 : decode cX8_road 46 = .ok (.iload 6, 2) := by decide +kernel
theorem dX8_road_48 : decode cX8_road 48 = .ok (.aload_n 0, 1) := by decide +kernel
theorem dX8_road_49 : decode cX8_road 49 = .ok (.getfield 87, 3) := by decide +kernel
theorem dX8_road_52 : decode cX8_road 52 = .ok (.if_icmp .ge 62, 3) := by decide +kernel
theorem dX8_road_55 : decode cX8_road 55 = .ok (.aload_n 0, 1) := by decide +kernel
theorem dX8_road_56 : decode cX8_road 56 = .ok (.iload_n 1, 1) := by decide +kernel
theorem dX8_road_57 : decode cX8_road 57 = .ok (.iload 6, 2) := by decide +kernel
theorem dX8_road_59 : decode cX8_road 59 = .ok (.iload_n 2, 1) := by decide +kernel
theorem dX8_road_60 : decode cX8_road 60 = .ok (.invokevirtual 293, 3) := by decide +kernel
theorem dX8_road_63 : decode cX8_road 63 = .ok (.istore 7, 2) := by decide +kernel
theorem dX8_road_65 : decode cX8_road 65 = .ok (.iload 7, 2) := by decide +kernel
theorem dX8_road_67 : decode cX8_road 67 = .ok (.iload 5, 2) := by decide +kernel
theorem dX8_road_69 : decode cX8_road 69 = .ok (.if_icmp .le 19, 3) := by decide +kernel
theorem dX8_road_72 : decode cX8_road 72 = .ok (.iload 6, 2) := by decide +kernel
theorem dX8_road_74 : decode cX8_road 74 = .ok (.iconst (-1), 1) := by decide +kernel
theorem dX8_road_75 : decode cX8_road 75 = .ok (.if_icmp .ne 8, 3) := by decide +kernel
theorem dX8_road_78 : decode cX8_road 78 = .ok (.bipush (-2), 2) := by decide +kernel
theorem dX8_road_80 : decode cX8_road 80 = .ok (.goto 10, 3) := by decide +kernel
theorem dX8_road_83 : decode cX8_road 83 = .ok (.iload 6, 2) := by decide +kernel
theorem dX8_road_85 : decode cX8_road 85 = .ok (.goto 5, 3) := by decide +kernel
theorem dX8_road_88 : decode cX8_road 88 = .ok (.iload 4, 2) := by decide +kernel
theorem dX8_road_90 : decode cX8_road 90 = .ok (.istore 4, 2) := by decide +kernel
theorem dX8_road_92 : decode cX8_road 92 = .ok (.iload 7, 2) := by decide +kernel
theorem dX8_road_94 : decode cX8_road 94 = .ok (.iload 5, 2) := by decide +kernel
theorem dX8_road_96 : decode cX8_road 96 = .ok (.if_icmp .le 8, 3) := by decide +kernel
theorem dX8_road_99 : decode cX8_road 99 = .ok (.iload 7, 2) := by decide +kernel
theorem dX8_road_101 : decode cX8_road 101 = .ok (.goto 5, 3) := by decide +kernel
theorem dX8_road_104 : decode cX8_road 104 = .ok (.iload 5, 2) := by decide +kernel
theorem dX8_road_106 : decode cX8_road 106 = .ok (.istore 5, 2) := by decide +kernel
theorem dX8_road_108 : decode cX8_road 108 = .ok (.iinc 6 1, 3) := by decide +kernel
theorem dX8_road_111 : decode cX8_road 111 = .ok (.goto (-65), 3) := by decide +kernel
theorem dX8_road_114 : decode cX8_road 114 = .ok (.iload_n 3, 1) := by decide +kernel
theorem dX8_road_115 : decode cX8_road 115 = .ok (.ifCond .ne 8, 3) := by decide +kernel
theorem dX8_road_118 : decode cX8_road 118 = .ok (.iload 4, 2) := by decide +kernel
theorem dX8_road_120 : decode cX8_road 120 = .ok (.goto 5, 3) := by decide +kernel
theorem dX8_road_123 : decode cX8_road 123 = .ok (.iload 5, 2) := by decide +kernel
theorem dX8_road_125 : decode cX8_road 125 = .ok (.ireturn, 1) := by decide +kernel
theorem dX8_chain_0 : decode cX8_chain 0 = .ok (.aload_n 0, 1) := by decide +kernel
theorem dX8_chain_1 : decode cX8_chain 1 = .ok (.iload_n 1, 1) := by decide +kernel
theorem dX8_chain_2 : decode cX8_chain 2 = .ok (.invokevirtual 201, 3) := by decide +kernel
theorem dX8_chain_5 : decode cX8_chain 5 = .ok (.ifCond .eq 11, 3) := by decide +kernel
theorem dX8_chain_8 : decode cX8_chain 8 = .ok (.aload_n 0, 1) := by decide +kernel
theorem dX8_chain_9 : decode cX8_chain 9 = .ok (.iload_n 1, 1) := by decide +kernel
theorem dX8_chain_10 : decode cX8_chain 10 = .ok (.invokevirtual 227, 3) := by decide +kernel
theorem dX8_chain_13 : decode cX8_chain 13 = .ok (.goto 5, 3) := by decide +kernel
theorem dX8_chain_16 : decode cX8_chain 16 = .ok (.bipush (-5), 2) := by decide +kernel
theorem dX8_chain_18 : decode cX8_chain 18 = .ok (.ireturn, 1) := by decide +kernel
theorem dX8_comesToItself_0 : decode cX8_comesToItself 0 = .ok (.aload_n 0, 1) := by decide +kernel
theorem dX8_comesToItself_1 : decode cX8_comesToItself 1 = .ok (.getfield 16, 3) := by decide +kernel
theorem dX8_comesToItself_4 : decode cX8_comesToItself 4 = .ok (.iconst 3, 1) := by decide +kernel
theorem dX8_comesToItself_5 : decode cX8_comesToItself 5 = .ok (.iload_n 1, 1) := by decide +kernel
theorem dX8_comesToItself_6 : decode cX8_comesToItself 6 = .ok (.imul, 1) := by decide +kernel
theorem dX8_comesToItself_7 : decode cX8_comesToItself 7 = .ok (.iconst 1, 1) := by decide +kernel
theorem dX8_comesToItself_8 : decode cX8_comesToItself 8 = .ok (.iadd, 1) := by decide +kernel
theorem dX8_comesToItself_9 : decode cX8_comesToItself 9 = .ok (.iaload, 1) := by decide +kernel
theorem dX8_comesToItself_10 : decode cX8_comesToItself 10 = .ok (.istore_n 2, 1) := by decide +kernel
theorem dX8_comesToItself_11 : decode cX8_comesToItself 11 = .ok (.iconst 0, 1) := by decide +kernel
theorem dX8_comesToItself_12 : decode cX8_comesToItself 12 = .ok (.istore_n 3, 1) := by decide +kernel
theorem dX8_comesToItself_13 : decode cX8_comesToItself 13 = .ok (.iload_n 3, 1) := by decide +kernel
theorem dX8_comesToItself_14 : decode cX8_comesToItself 14 = .ok (.bipush 12, 2) := by decide +kernel
theorem dX8_comesToItself_16 : decode cX8_comesToItself 16 = .ok (.if_icmp .ge 35, 3) := by decide +kernel
theorem dX8_comesToItself_19 : decode cX8_comesToItself 19 = .ok (.aload_n 0, 1) := by decide +kernel
theorem dX8_comesToItself_20 : decode cX8_comesToItself 20 = .ok (.iload_n 2, 1) := by decide +kernel
theorem dX8_comesToItself_21 : decode cX8_comesToItself 21 = .ok (.invokevirtual 201, 3) := by decide +kernel
theorem dX8_comesToItself_24 : decode cX8_comesToItself 24 = .ok (.ifCond .eq 27, 3) := by decide +kernel
theorem dX8_comesToItself_27 : decode cX8_comesToItself 27 = .ok (.iload_n 2, 1) := by decide +kernel
theorem dX8_comesToItself_28 : decode cX8_comesToItself 28 = .ok (.iload_n 1, 1) := by decide +kernel
theorem dX8_comesToItself_29 : decode cX8_comesToItself 29 = .ok (.if_icmp .ne 5, 3) := by decide +kernel
theorem dX8_comesToItself_32 : decode cX8_comesToItself 32 = .ok (.iconst 1, 1) := by decide +kernel
theorem dX8_comesToItself_33 : decode cX8_comesToItself 33 = .ok (.ireturn, 1) := by decide +kernel
theorem dX8_comesToItself_34 : decode cX8_comesToItself 34 = .ok (.aload_n 0, 1) := by decide +kernel
theorem dX8_comesToItself_35 : decode cX8_comesToItself 35 = .ok (.getfield 16, 3) := by decide +kernel
theorem dX8_comesToItself_38 : decode cX8_comesToItself 38 = .ok (.iconst 3, 1) := by decide +kernel
theorem dX8_comesToItself_39 : decode cX8_comesToItself 39 = .ok (.iload_n 2, 1) := by decide +kernel
theorem dX8_comesToItself_40 : decode cX8_comesToItself 40 = .ok (.imul, 1) := by decide +kernel
theorem dX8_comesToItself_41 : decode cX8_comesToItself 41 = .ok (.iconst 1, 1) := by decide +kernel
theorem dX8_comesToItself_42 : decode cX8_comesToItself 42 = .ok (.iadd, 1) := by decide +kernel
theorem dX8_comesToItself_43 : decode cX8_comesToItself 43 = .ok (.iaload, 1) := by decide +kernel
theorem dX8_comesToItself_44 : decode cX8_comesToItself 44 = .ok (.istore_n 2, 1) := by decide +kernel
theorem dX8_comesToItself_45 : decode cX8_comesToItself 45 = .ok (.iinc 3 1, 3) := by decide +kernel
theorem dX8_comesToItself_48 : decode cX8_comesToItself 48 = .ok (.goto (-35), 3) := by decide +kernel
theorem dX8_comesToItself_51 : decode cX8_comesToItself 51 = .ok (.iconst 0, 1) := by decide +kernel
theorem dX8_comesToItself_52 : decode cX8_comesToItself 52 = .ok (.ireturn, 1) := by decide +kernel
theorem dX8_rings_0 : decode cX8_rings 0 = .ok (.iconst 0, 1) := by decide +kernel
theorem dX8_rings_1 : decode cX8_rings 1 = .ok (.istore_n 1, 1) := by decide +kernel
theorem dX8_rings_2 : decode cX8_rings 2 = .ok (.iconst 0, 1) := by decide +kernel
theorem dX8_rings_3 : decode cX8_rings 3 = .ok (.istore_n 2, 1) := by decide +kernel
theorem dX8_rings_4 : decode cX8_rings 4 = .ok (.iload_n 2, 1) := by decide +kernel
theorem dX8_rings_5 : decode cX8_rings 5 = .ok (.aload_n 0, 1) := by decide +kernel
theorem dX8_rings_6 : decode cX8_rings 6 = .ok (.getfield 87, 3) := by decide +kernel
theorem dX8_rings_9 : decode cX8_rings 9 = .ok (.if_icmp .ge 27, 3) := by decide +kernel
theorem dX8_rings_12 : decode cX8_rings 12 = .ok (.iload_n 1, 1) := by decide +kernel
theorem dX8_rings_13 : decode cX8_rings 13 = .ok (.aload_n 0, 1) := by decide +kernel
theorem dX8_rings_14 : decode cX8_rings 14 = .ok (.iload_n 2, 1) := by decide +kernel
theorem dX8_rings_15 : decode cX8_rings 15 = .ok (.invokevirtual 296, 3) := by decide +kernel
theorem dX8_rings_18 : decode cX8_rings 18 = .ok (.ifCond .eq 9, 3) := by decide +kernel
theorem dX8_rings_21 : decode cX8_rings 21 = .ok (.iconst 1, 1) := by decide +kernel
theorem dX8_rings_22 : decode cX8_rings 22 = .ok (.iload_n 2, 1) := by decide +kernel
theorem dX8_rings_23 : decode cX8_rings 23 = .ok (.ishl, 1) := by decide +kernel
theorem dX8_rings_24 : decode cX8_rings 24 = .ok (.goto 4, 3) := by decide +kernel
theorem dX8_rings_27 : decode cX8_rings 27 = .ok (.iconst 0, 1) := by decide +kernel
theorem dX8_rings_28 : decode cX8_rings 28 = .ok (.ior, 1) := by decide +kernel
theorem dX8_rings_29 : decode cX8_rings 29 = .ok (.istore_n 1, 1) := by decide +kernel
theorem dX8_rings_30 : decode cX8_rings 30 = .ok (.iinc 2 1, 3) := by decide +kernel
theorem dX8_rings_33 : decode cX8_rings 33 = .ok (.goto (-29), 3) := by decide +kernel
theorem dX8_rings_36 : decode cX8_rings 36 = .ok (.iload_n 1, 1) := by decide +kernel
theorem dX8_rings_37 : decode cX8_rings 37 = .ok (.ireturn, 1) := by decide +kernel
theorem dX8_longest_0 : decode cX8_longest 0 = .ok (.iload_n 1, 1) := by decide +kernel
theorem dX8_longest_1 : decode cX8_longest 1 = .ok (.iconst 0, 1) := by decide +kernel
theorem dX8_longest_2 : decode cX8_longest 2 = .ok (.iconst 1, 1) := by decide +kernel
theorem dX8_longest_3 : decode cX8_longest 3 = .ok (.invokestatic 90, 3) := by decide +kernel
theorem dX8_longest_6 : decode cX8_longest 6 = .ok (.ifCond .ne 6, 3) := by decide +kernel
theorem dX8_longest_9 : decode cX8_longest 9 = .ok (.bipush (-2), 2) := by decide +kernel
theorem dX8_longest_11 : decode cX8_longest 11 = .ok (.ireturn, 1) := by decide +kernel
theorem dX8_longest_12 : decode cX8_longest 12 = .ok (.iconst (-1), 1) := by decide +kernel
theorem dX8_longest_13 : decode cX8_longest 13 = .ok (.istore_n 2, 1) := by decide +kernel
theorem dX8_longest_14 : decode cX8_longest 14 = .ok (.iconst (-1), 1) := by decide +kernel
theorem dX8_longest_15 : decode cX8_longest 15 = .ok (.istore_n 3, 1) := by decide +kernel
theorem dX8_longest_16 : decode cX8_longest 16 = .ok (.iconst 0, 1) := by decide +kernel
theorem dX8_longest_17 : decode cX8_longest 17 = .ok (.istore 4, 2) := by decide +kernel
theorem dX8_longest_19 : decode cX8_longest 19 = .ok (.iload 4, 2) := by decide +kernel
theorem dX8_longest_21 : decode cX8_longest 21 = .ok (.aload_n 0, 1) := by decide +kernel
theorem dX8_longest_22 : decode cX8_longest 22 = .ok (.getfield 87, 3) := by decide +kernel
theorem dX8_longest_25 : decode cX8_longest 25 = .ok (.if_icmp .ge 46, 3) := by decide +kernel
theorem dX8_longest_28 : decode cX8_longest 28 = .ok (.aload_n 0, 1) := by decide +kernel
theorem dX8_longest_29 : decode cX8_longest 29 = .ok (.iload 4, 2) := by decide +kernel
theorem dX8_longest_31 : decode cX8_longest 31 = .ok (.invokevirtual 227, 3) := by decide +kernel
theorem dX8_longest_34 : decode cX8_longest 34 = .ok (.invokestatic 218, 3) := by decide +kernel
theorem dX8_longest_37 : decode cX8_longest 37 = .ok (.istore 5, 2) := by decide +kernel
theorem dX8_longest_39 : decode cX8_longest 39 = .ok (.iload 5, 2) := by decide +kernel
theorem dX8_longest_41 : decode cX8_longest 41 = .ok (.iload_n 3, 1) := by decide +kernel
theorem dX8_longest_42 : decode cX8_longest 42 = .ok (.if_icmp .le 8, 3) := by decide +kernel
theorem dX8_longest_45 : decode cX8_longest 45 = .ok (.iload 4, 2) := by decide +kernel
theorem dX8_longest_47 : decode cX8_longest 47 = .ok (.goto 4, 3) := by decide +kernel
theorem dX8_longest_50 : decode cX8_longest 50 = .ok (.iload_n 2, 1) := by decide +kernel
theorem dX8_longest_51 : decode cX8_longest 51 = .ok (.istore_n 2, 1) := by decide +kernel
theorem dX8_longest_52 : decode cX8_longest 52 = .ok (.iload 5, 2) := by decide +kernel
theorem dX8_longest_54 : decode cX8_longest 54 = .ok (.iload_n 3, 1) := by decide +kernel
theorem dX8_longest_55 : decode cX8_longest 55 = .ok (.if_icmp .le 8, 3) := by decide +kernel
theorem dX8_longest_58 : decode cX8_longest 58 = .ok (.iload 5, 2) := by decide +kernel
theorem dX8_longest_60 : decode cX8_longest 60 = .ok (.goto 4, 3) := by decide +kernel
theorem dX8_longest_63 : decode cX8_longest 63 = .ok (.iload_n 3, 1) := by decide +kernel
theorem dX8_longest_64 : decode cX8_longest 64 = .ok (.istore_n 3, 1) := by decide +kernel
theorem dX8_longest_65 : decode cX8_longest 65 = .ok (.iinc 4 1, 3) := by decide +kernel
theorem dX8_longest_68 : decode cX8_longest 68 = .ok (.goto (-49), 3) := by decide +kernel
theorem dX8_longest_71 : decode cX8_longest 71 = .ok (.iload_n 1, 1) := by decide +kernel
theorem dX8_longest_72 : decode cX8_longest 72 = .ok (.ifCond .ne 7, 3) := by decide +kernel
theorem dX8_longest_75 : decode cX8_longest 75 = .ok (.iload_n 2, 1) := by decide +kernel
theorem dX8_longest_76 : decode cX8_longest 76 = .ok (.goto 4, 3) := by decide +kernel
theorem dX8_longest_79 : decode cX8_longest 79 = .ok (.iload_n 3, 1) := by decide +kernel
theorem dX8_longest_80 : decode cX8_longest 80 = .ok (.ireturn, 1) := by decide +kernel
theorem dX8_sheetWrong_0 : decode cX8_sheetWrong 0 = .ok (.iload_n 1, 1) := by decide +kernel
theorem dX8_sheetWrong_1 : decode cX8_sheetWrong 1 = .ok (.iconst 0, 1) := by decide +kernel
theorem dX8_sheetWrong_2 : decode cX8_sheetWrong 2 = .ok (.iconst 3, 1) := by decide +kernel
theorem dX8_sheetWrong_3 : decode cX8_sheetWrong 3 = .ok (.invokestatic 90, 3) := by decide +kernel
theorem dX8_sheetWrong_6 : decode cX8_sheetWrong 6 = .ok (.ifCond .ne 6, 3) := by decide +kernel
theorem dX8_sheetWrong_9 : decode cX8_sheetWrong 9 = .ok (.bipush (-2), 2) := by decide +kernel
theorem dX8_sheetWrong_11 : decode cX8_sheetWrong 11 = .ok (.ireturn, 1) := by decide +kernel
theorem dX8_sheetWrong_12 : decode cX8_sheetWrong 12 = .ok (.aload_n 0, 1) := by decide +kernel
theorem dX8_sheetWrong_13 : decode cX8_sheetWrong 13 = .ok (.getfield 44, 3) := by decide +kernel
theorem dX8_sheetWrong_16 : decode cX8_sheetWrong 16 = .ok (.iload_n 1, 1) := by decide +kernel
theorem dX8_sheetWrong_17 : decode cX8_sheetWrong 17 = .ok (.iaload, 1) := by decide +kernel
theorem dX8_sheetWrong_18 : decode cX8_sheetWrong 18 = .ok (.iconst (-1), 1) := by decide +kernel
theorem dX8_sheetWrong_19 : decode cX8_sheetWrong 19 = .ok (.if_icmp .ne 8, 3) := by decide +kernel
theorem dX8_sheetWrong_22 : decode cX8_sheetWrong 22 = .ok (.bipush (-11), 2) := by decide +kernel
theorem dX8_sheetWrong_24 : decode cX8_sheetWrong 24 = .ok (.goto 4, 3) := by decide +kernel
theorem dX8_sheetWrong_27 : decode cX8_sheetWrong 27 = .ok (.iconst 0, 1) := by decide +kernel
theorem dX8_sheetWrong_28 : decode cX8_sheetWrong 28 = .ok (.ireturn, 1) := by decide +kernel
theorem dX8_unlike_0 : decode cX8_unlike 0 = .ok (.iconst (-1), 1) := by decide +kernel
theorem dX8_unlike_1 : decode cX8_unlike 1 = .ok (.istore_n 2, 1) := by decide +kernel
theorem dX8_unlike_2 : decode cX8_unlike 2 = .ok (.aload_n 0, 1) := by decide +kernel
theorem dX8_unlike_3 : decode cX8_unlike 3 = .ok (.invokevirtual 275, 3) := by decide +kernel
theorem dX8_unlike_6 : decode cX8_unlike 6 = .ok (.iconst 0, 1) := by decide +kernel
theorem dX8_unlike_7 : decode cX8_unlike 7 = .ok (.istore_n 3, 1) := by decide +kernel
theorem dX8_unlike_8 : decode cX8_unlike 8 = .ok (.iload_n 3, 1) := by decide +kernel
theorem dX8_unlike_9 : decode cX8_unlike 9 = .ok (.aload_n 0, 1) := by decide +kernel
theorem dX8_unlike_10 : decode cX8_unlike 10 = .ok (.getfield 47, 3) := by decide +kernel
theorem dX8_unlike_13 : decode cX8_unlike 13 = .ok (.iload_n 1, 1) := by decide +kernel
theorem dX8_unlike_14 : decode cX8_unlike 14 = .ok (.iaload, 1) := by decide +kernel
theorem dX8_unlike_15 : decode cX8_unlike 15 = .ok (.if_icmp .ge 42, 3) := by decide +kernel
theorem dX8_unlike_18 : decode cX8_unlike 18 = .ok (.iload_n 2, 1) := by decide +kernel
theorem dX8_unlike_19 : decode cX8_unlike 19 = .ok (.iconst (-1), 1) := by decide +kernel
theorem dX8_unlike_20 : decode cX8_unlike 20 = .ok (.if_icmp .ne 37, 3) := by decide +kernel
theorem dX8_unlike_23 : decode cX8_unlike 23 = .ok (.aload_n 0, 1) := by decide +kernel
theorem dX8_unlike_24 : decode cX8_unlike 24 = .ok (.invokevirtual 251, 3) := by decide +kernel
theorem dX8_unlike_27 : decode cX8_unlike 27 = .ok (.aload_n 0, 1) := by decide +kernel
theorem dX8_unlike_28 : decode cX8_unlike 28 = .ok (.invokevirtual 230, 3) := by decide +kernel
theorem dX8_unlike_31 : decode cX8_unlike 31 = .ok (.aload_n 0, 1) := by decide +kernel
theorem dX8_unlike_32 : decode cX8_unlike 32 = .ok (.getfield 50, 3) := by decide +kernel
theorem dX8_unlike_35 : decode cX8_unlike 35 = .ok (.bipush 40, 2) := by decide +kernel
theorem dX8_unlike_37 : decode cX8_unlike 37 = .ok (.iload_n 1, 1) := by decide +kernel
theorem dX8_unlike_38 : decode cX8_unlike 38 = .ok (.imul, 1) := by decide +kernel
theorem dX8_unlike_39 : decode cX8_unlike 39 = .ok (.iload_n 3, 1) := by decide +kernel
theorem dX8_unlike_40 : decode cX8_unlike 40 = .ok (.iadd, 1) := by decide +kernel
theorem dX8_unlike_41 : decode cX8_unlike 41 = .ok (.iaload, 1) := by decide +kernel
theorem dX8_unlike_42 : decode cX8_unlike 42 = .ok (.if_icmp .ne 7, 3) := by decide +kernel
theorem dX8_unlike_45 : decode cX8_unlike 45 = .ok (.iconst (-1), 1) := by decide +kernel
theorem dX8_unlike_46 : decode cX8_unlike 46 = .ok (.goto 4, 3) := by decide +kernel
theorem dX8_unlike_49 : decode cX8_unlike 49 = .ok (.iload_n 3, 1) := by decide +kernel
theorem dX8_unlike_50 : decode cX8_unlike 50 = .ok (.istore_n 2, 1) := by decide +kernel
theorem dX8_unlike_51 : decode cX8_unlike 51 = .ok (.iinc 3 1, 3) := by decide +kernel
theorem dX8_unlike_54 : decode cX8_unlike 54 = .ok (.goto (-46), 3) := by decide +kernel
theorem dX8_unlike_57 : decode cX8_unlike 57 = .ok (.aload_n 0, 1) := by decide +kernel
theorem dX8_unlike_58 : decode cX8_unlike 58 = .ok (.invokevirtual 281, 3) := by decide +kernel
theorem dX8_unlike_61 : decode cX8_unlike 61 = .ok (.iload_n 2, 1) := by decide +kernel
theorem dX8_unlike_62 : decode cX8_unlike 62 = .ok (.ireturn, 1) := by decide +kernel
theorem dX8_judge_0 : decode cX8_judge 0 = .ok (.aload_n 0, 1) := by decide +kernel
theorem dX8_judge_1 : decode cX8_judge 1 = .ok (.iload_n 1, 1) := by decide +kernel
theorem dX8_judge_2 : decode cX8_judge 2 = .ok (.invokevirtual 299, 3) := by decide +kernel
theorem dX8_judge_5 : decode cX8_judge 5 = .ok (.istore_n 2, 1) := by decide +kernel
theorem dX8_judge_6 : decode cX8_judge 6 = .ok (.iload_n 2, 1) := by decide +kernel
theorem dX8_judge_7 : decode cX8_judge 7 = .ok (.ifCond .ne 11, 3) := by decide +kernel
theorem dX8_judge_10 : decode cX8_judge 10 = .ok (.aload_n 0, 1) := by decide +kernel
theorem dX8_judge_11 : decode cX8_judge 11 = .ok (.iload_n 1, 1) := by decide +kernel
theorem dX8_judge_12 : decode cX8_judge 12 = .ok (.invokevirtual 302, 3) := by decide +kernel
theorem dX8_judge_15 : decode cX8_judge 15 = .ok (.goto 4, 3) := by decide +kernel
theorem dX8_judge_18 : decode cX8_judge 18 = .ok (.iload_n 2, 1) := by decide +kernel
theorem dX8_judge_19 : decode cX8_judge 19 = .ok (.ireturn, 1) := by decide +kernel
theorem dX8_begins_0 : decode cX8_begins 0 = .ok (.aload_n 0, 1) := by decide +kernel
theorem dX8_begins_1 : decode cX8_begins 1 = .ok (.iload_n 1, 1) := by decide +kernel
theorem dX8_begins_2 : decode cX8_begins 2 = .ok (.invokevirtual 299, 3) := by decide +kernel
theorem dX8_begins_5 : decode cX8_begins 5 = .ok (.istore_n 2, 1) := by decide +kernel
theorem dX8_begins_6 : decode cX8_begins 6 = .ok (.iload_n 2, 1) := by decide +kernel
theorem dX8_begins_7 : decode cX8_begins 7 = .ok (.ifCond .eq 5, 3) := by decide +kernel
theorem dX8_begins_10 : decode cX8_begins 10 = .ok (.iload_n 2, 1) := by decide +kernel
theorem dX8_begins_11 : decode cX8_begins 11 = .ok (.ireturn, 1) := by decide +kernel
theorem dX8_begins_12 : decode cX8_begins 12 = .ok (.aload_n 0, 1) := by decide +kernel
theorem dX8_begins_13 : decode cX8_begins 13 = .ok (.getfield 104, 3) := by decide +kernel
theorem dX8_begins_16 : decode cX8_begins 16 = .ok (.istore_n 3, 1) := by decide +kernel
theorem dX8_begins_17 : decode cX8_begins 17 = .ok (.aload_n 0, 1) := by decide +kernel
theorem dX8_begins_18 : decode cX8_begins 18 = .ok (.getfield 22, 3) := by decide +kernel
theorem dX8_begins_21 : decode cX8_begins 21 = .ok (.istore 4, 2) := by decide +kernel
theorem dX8_begins_23 : decode cX8_begins 23 = .ok (.iconst 0, 1) := by decide +kernel
theorem dX8_begins_24 : decode cX8_begins 24 = .ok (.istore 5, 2) := by decide +kernel
theorem dX8_begins_26 : decode cX8_begins 26 = .ok (.aload_n 0, 1) := by decide +kernel
theorem dX8_begins_27 : decode cX8_begins 27 = .ok (.iconst (-1), 1) := by decide +kernel
theorem dX8_begins_28 : decode cX8_begins 28 = .ok (.putfield 22, 3) := by decide +kernel
theorem dX8_begins_31 : decode cX8_begins 31 = .ok (.iconst 0, 1) := by decide +kernel
theorem dX8_begins_32 : decode cX8_begins 32 = .ok (.istore 6, 2) := by decide +kernel
theorem dX8_begins_34 : decode cX8_begins 34 = .ok (.iload 6, 2) := by decide +kernel
theorem dX8_begins_36 : decode cX8_begins 36 = .ok (.aload_n 0, 1) := by decide +kernel
theorem dX8_begins_37 : decode cX8_begins 37 = .ok (.getfield 87, 3) := by decide +kernel
theorem dX8_begins_40 : decode cX8_begins 40 = .ok (.if_icmp .ge 41, 3) := by decide +kernel
theorem dX8_begins_43 : decode cX8_begins 43 = .ok (.aload_n 0, 1) := by decide +kernel
theorem dX8_begins_44 : decode cX8_begins 44 = .ok (.aload_n 0, 1) := by decide +kernel
theorem dX8_begins_45 : decode cX8_begins 45 = .ok (.iload 6, 2) := by decide +kernel
theorem dX8_begins_47 : decode cX8_begins 47 = .ok (.invokevirtual 101, 3) := by decide +kernel
theorem dX8_begins_50 : decode cX8_begins 50 = .ok (.putfield 104, 3) := by decide +kernel
theorem dX8_begins_53 : decode cX8_begins 53 = .ok (.iload 5, 2) := by decide +kernel
theorem dX8_begins_55 : decode cX8_begins 55 = .ok (.aload_n 0, 1) := by decide +kernel
theorem dX8_begins_56 : decode cX8_begins 56 = .ok (.iload_n 1, 1) := by decide +kernel
theorem dX8_begins_57 : decode cX8_begins 57 = .ok (.invokevirtual 302, 3) := by decide +kernel
theorem dX8_begins_60 : decode cX8_begins 60 = .ok (.iconst (-1), 1) := by decide +kernel
theorem dX8_begins_61 : decode cX8_begins 61 = .ok (.if_icmp .ne 10, 3) := by decide +kernel
theorem dX8_begins_64 : decode cX8_begins 64 = .ok (.iconst 1, 1) := by decide +kernel
theorem dX8_begins_65 : decode cX8_begins 65 = .ok (.iload 6, 2) := by decide +kernel
theorem dX8_begins_67 : decode cX8_begins 67 = .ok (.ishl, 1) := by decide +kernel
theorem dX8_begins_68 : decode cX8_begins 68 = .ok (.goto 4, 3) := by decide +kernel
theorem dX8_begins_71 : decode cX8_begins 71 = .ok (.iconst 0, 1) := by decide +kernel
theorem dX8_begins_72 : decode cX8_begins 72 = .ok (.ior, 1) := by decide +kernel
theorem dX8_begins_73 : decode cX8_begins 73 = .ok (.istore 5, 2) := by decide +kernel
theorem dX8_begins_75 : decode cX8_begins 75 = .ok (.iinc 6 1, 3) := by decide +kernel
theorem dX8_begins_78 : decode cX8_begins 78 = .ok (.goto (-44), 3) := by decide +kernel
theorem dX8_begins_81 : decode cX8_begins 81 = .ok (.aload_n 0, 1) := by decide +kernel
theorem dX8_begins_82 : decode cX8_begins 82 = .ok (.iload_n 3, 1) := by decide +kernel
theorem dX8_begins_83 : decode cX8_begins 83 = .ok (.putfield 104, 3) := by decide +kernel
theorem dX8_begins_86 : decode cX8_begins 86 = .ok (.aload_n 0, 1) := by decide +kernel
theorem dX8_begins_87 : decode cX8_begins 87 = .ok (.iload 4, 2) := by decide +kernel
theorem dX8_begins_89 : decode cX8_begins 89 = .ok (.putfield 22, 3) := by decide +kernel
theorem dX8_begins_92 : decode cX8_begins 92 = .ok (.iload 5, 2) := by decide +kernel
theorem dX8_begins_94 : decode cX8_begins 94 = .ok (.ireturn, 1) := by decide +kernel
theorem dX8_kinds_0 : decode cX8_kinds 0 = .ok (.aload_n 0, 1) := by decide +kernel
theorem dX8_kinds_1 : decode cX8_kinds 1 = .ok (.iload_n 1, 1) := by decide +kernel
theorem dX8_kinds_2 : decode cX8_kinds 2 = .ok (.invokevirtual 299, 3) := by decide +kernel
theorem dX8_kinds_5 : decode cX8_kinds 5 = .ok (.istore 4, 2) := by decide +kernel
theorem dX8_kinds_7 : decode cX8_kinds 7 = .ok (.iload 4, 2) := by decide +kernel
theorem dX8_kinds_9 : decode cX8_kinds 9 = .ok (.ifCond .eq 6, 3) := by decide +kernel
theorem dX8_kinds_12 : decode cX8_kinds 12 = .ok (.iload 4, 2) := by decide +kernel
theorem dX8_kinds_14 : decode cX8_kinds 14 = .ok (.ireturn, 1) := by decide +kernel
theorem dX8_kinds_15 : decode cX8_kinds 15 = .ok (.aload_n 0, 1) := by decide +kernel
theorem dX8_kinds_16 : decode cX8_kinds 16 = .ok (.iload_n 2, 1) := by decide +kernel
theorem dX8_kinds_17 : decode cX8_kinds 17 = .ok (.invokevirtual 201, 3) := by decide +kernel
theorem dX8_kinds_20 : decode cX8_kinds 20 = .ok (.ifCond .ne 6, 3) := by decide +kernel
theorem dX8_kinds_23 : decode cX8_kinds 23 = .ok (.bipush (-5), 2) := by decide +kernel
theorem dX8_kinds_25 : decode cX8_kinds 25 = .ok (.ireturn, 1) := by decide +kernel
theorem dX8_kinds_26 : decode cX8_kinds 26 = .ok (.iload_n 3, 1) := by decide +kernel
theorem dX8_kinds_27 : decode cX8_kinds 27 = .ok (.iconst 0, 1) := by decide +kernel
theorem dX8_kinds_28 : decode cX8_kinds 28 = .ok (.iconst 2, 1) := by decide +kernel
theorem dX8_kinds_29 : decode cX8_kinds 29 = .ok (.invokestatic 90, 3) := by decide +kernel
theorem dX8_kinds_32 : decode cX8_kinds 32 = .ok (.ifCond .ne 6, 3) := by decide +kernel
theorem dX8_kinds_35 : decode cX8_kinds 35 = .ok (.bipush (-7), 2) := by decide +kernel
theorem dX8_kinds_37 : decode cX8_kinds 37 = .ok (.ireturn, 1) := by decide +kernel
theorem dX8_kinds_38 : decode cX8_kinds 38 = .ok (.aload_n 0, 1) := by decide +kernel
theorem dX8_kinds_39 : decode cX8_kinds 39 = .ok (.getfield 7, 3) := by decide +kernel
theorem dX8_kinds_42 : decode cX8_kinds 42 = .ok (.iload_n 2, 1) := by decide +kernel
theorem dX8_kinds_43 : decode cX8_kinds 43 = .ok (.iaload, 1) := by decide +kernel
theorem dX8_kinds_44 : decode cX8_kinds 44 = .ok (.istore 5, 2) := by decide +kernel
theorem dX8_kinds_46 : decode cX8_kinds 46 = .ok (.aload_n 0, 1) := by decide +kernel
theorem dX8_kinds_47 : decode cX8_kinds 47 = .ok (.getfield 13, 3) := by decide +kernel
theorem dX8_kinds_50 : decode cX8_kinds 50 = .ok (.iload_n 2, 1) := by decide +kernel
theorem dX8_kinds_51 : decode cX8_kinds 51 = .ok (.iaload, 1) := by decide +kernel
theorem dX8_kinds_52 : decode cX8_kinds 52 = .ok (.istore 6, 2) := by decide +kernel
theorem dX8_kinds_54 : decode cX8_kinds 54 = .ok (.aload_n 0, 1) := by decide +kernel
theorem dX8_kinds_55 : decode cX8_kinds 55 = .ok (.getfield 16, 3) := by decide +kernel
theorem dX8_kinds_58 : decode cX8_kinds 58 = .ok (.iconst 3, 1) := by decide +kernel
theorem dX8_kinds_59 : decode cX8_kinds 59 = .ok (.iload_n 2, 1) := by decide +kernel
theorem dX8_kinds_60 : decode cX8_kinds 60 = .ok (.imul, 1) := by decide +kernel
theorem dX8_kinds_61 : decode cX8_kinds 61 = .ok (.iconst 1, 1) := by decide +kernel
theorem dX8_kinds_62 : decode cX8_kinds 62 = .ok (.iadd, 1) := by decide +kernel
theorem dX8_kinds_63 : decode cX8_kinds 63 = .ok (.iaload, 1) := by decide +kernel
theorem dX8_kinds_64 : decode cX8_kinds 64 = .ok (.istore 7, 2) := by decide +kernel
theorem dX8_kinds_66 : decode cX8_kinds 66 = .ok (.iconst 0, 1) := by decide +kernel
theorem dX8_kinds_67 : decode cX8_kinds 67 = .ok (.istore 8, 2) := by decide +kernel
theorem dX8_kinds_69 : decode cX8_kinds 69 = .ok (.iconst 0, 1) := by decide +kernel
theorem dX8_kinds_70 : decode cX8_kinds 70 = .ok (.istore 9, 2) := by decide +kernel
theorem dX8_kinds_72 : decode cX8_kinds 72 = .ok (.iload 9, 2) := by decide +kernel
theorem dX8_kinds_74 : decode cX8_kinds 74 = .ok (.iload_n 3, 1) := by decide +kernel
theorem dX8_kinds_75 : decode cX8_kinds 75 = .ok (.ifCond .ne 8, 3) := by decide +kernel
theorem dX8_kinds_78 : decode cX8_kinds 78 = .ok (.bipush 6, 2) := by decide +kernel
theorem dX8_kinds_80 : decode cX8_kinds 80 = .ok (.goto 19, 3) := by decide +kernel
theorem dX8_kinds_83 : decode cX8_kinds 83 = .ok (.iload_n 3, 1) := by decide +kernel
theorem dX8_kinds_84 : decode cX8_kinds 84 = .ok (.iconst 1, 1) := by decide +kernel
theorem dX8_kinds_85 : decode cX8_kinds 85 = .ok (.if_icmp .ne 8, 3) := by decide +kernel
theorem dX8_kinds_88 : decode cX8_kinds 88 = .ok (.bipush 10, 2) := by decide +kernel
theorem dX8_kinds_90 : decode cX8_kinds 90 = .ok (.goto 9, 3) := by decide +kernel
theorem dX8_kinds_93 : decode cX8_kinds 93 = .ok (.aload_n 0, 1) := by decide +kernel
theorem dX8_kinds_94 : decode cX8_kinds 94 = .ok (.getfield 87, 3) := by decide +kernel
theorem dX8_kinds_97 : decode cX8_kinds 97 = .ok (.iconst 1, 1) := by decide +kernel
theorem dX8_kinds_98 : decode cX8_kinds 98 = .ok (.iadd, 1) := by decide +kernel
theorem dX8_kinds_99 : decode cX8_kinds 99 = .ok (.if_icmp .ge 90, 3) := by decide +kernel
theorem dX8_kinds_102 : decode cX8_kinds 102 = .ok (.aload_n 0, 1) := by decide +kernel
theorem dX8_kinds_103 : decode cX8_kinds 103 = .ok (.getfield 7, 3) := by decide +kernel
theorem dX8_kinds_106 : decode cX8_kinds 106 = .ok (.iload_n 2, 1) := by decide +kernel
theorem dX8_kinds_107 : decode cX8_kinds 107 = .ok (.iload_n 3, 1) := by decide +kernel
theorem dX8_kinds_108 : decode cX8_kinds 108 = .ok (.ifCond .ne 8, 3) := by decide +kernel
theorem dX8_kinds_111 : decode cX8_kinds 111 = .ok (.iload 9, 2) := by decide +kernel
theorem dX8_kinds_113 : decode cX8_kinds 113 = .ok (.goto 5, 3) := by decide +kernel
theorem dX8_kinds_116 : decode cX8_kinds 116 = .ok (.iload 5, 2) := by decide +kernel
theorem dX8_kinds_118 : decode cX8_kinds 118 = .ok (.iastore, 1) := by decide +kernel
theorem dX8_kinds_119 : decode cX8_kinds 119 = .ok (.aload_n 0, 1) := by decide +kernel
theorem dX8_kinds_120 : decode cX8_kinds 120 = .ok (.getfield 13, 3) := by decide +kernel
theorem dX8_kinds_123 : decode cX8_kinds 123 = .ok (.iload_n 2, 1) := by decide +kernel
theorem dX8_kinds_124 : decode cX8_kinds 124 = .ok (.iload_n 3, 1) := by decide +kernel
theorem dX8_kinds_125 : decode cX8_kinds 125 = .ok (.iconst 1, 1) := by decide +kernel
theorem dX8_kinds_126 : decode cX8_kinds 126 = .ok (.if_icmp .ne 8, 3) := by decide +kernel
theorem dX8_kinds_129 : decode cX8_kinds 129 = .ok (.iload 9, 2) := by decide +kernel
theorem dX8_kinds_131 : decode cX8_kinds 131 = .ok (.goto 5, 3) := by decide +kernel
theorem dX8_kinds_134 : decode cX8_kinds 134 = .ok (.iload 6, 2) := by decide +kernel
theorem dX8_kinds_136 : decode cX8_kinds 136 = .ok (.iastore, 1) := by decide +kernel
theorem dX8_kinds_137 : decode cX8_kinds 137 = .ok (.aload_n 0, 1) := by decide +kernel
theorem dX8_kinds_138 : decode cX8_kinds 138 = .ok (.getfield 16, 3) := by decide +kernel
theorem dX8_kinds_141 : decode cX8_kinds 141 = .ok (.iconst 3, 1) := by decide +kernel
theorem dX8_kinds_142 : decode cX8_kinds 142 = .ok (.iload_n 2, 1) := by decide +kernel
theorem dX8_kinds_143 : decode cX8_kinds 143 = .ok (.imul, 1) := by decide +kernel
theorem dX8_kinds_144 : decode cX8_kinds 144 = .ok (.iconst 1, 1) := by decide +kernel
theorem dX8_kinds_145 : decode cX8_kinds 145 = .ok (.iadd, 1) := by decide +kernel
theorem dX8_kinds_146 : decode cX8_kinds 146 = .ok (.iload_n 3, 1) := by decide +kernel
theorem dX8_kinds_147 : decode cX8_kinds 147 = .ok (.iconst 2, 1) := by decide +kernel
theorem dX8_kinds_148 : decode cX8_kinds 148 = .ok (.if_icmp .ne 10, 3) := by decide +kernel
theorem dX8_kinds_151 : decode cX8_kinds 151 = .ok (.iload 9, 2) := by decide +kernel
theorem dX8_kinds_153 : decode cX8_kinds 153 = .ok (.iconst 1, 1) := by decide +kernel
theorem dX8_kinds_154 : decode cX8_kinds 154 = .ok (.isub, 1) := by decide +kernel
theorem dX8_kinds_155 : decode cX8_kinds 155 = .ok (.goto 5, 3) := by decide +kernel
theorem dX8_kinds_158 : decode cX8_kinds 158 = .ok (.iload 7, 2) := by decide +kernel
theorem dX8_kinds_160 : decode cX8_kinds 160 = .ok (.iastore, 1) := by decide +kernel
theorem dX8_kinds_161 : decode cX8_kinds 161 = .ok (.iload 8, 2) := by decide +kernel
theorem dX8_kinds_163 : decode cX8_kinds 163 = .ok (.aload_n 0, 1) := by decide +kernel
theorem dX8_kinds_164 : decode cX8_kinds 164 = .ok (.iload_n 1, 1) := by decide +kernel
theorem dX8_kinds_165 : decode cX8_kinds 165 = .ok (.invokevirtual 302, 3) := by decide +kernel
theorem dX8_kinds_168 : decode cX8_kinds 168 = .ok (.iconst (-1), 1) := by decide +kernel
theorem dX8_kinds_169 : decode cX8_kinds 169 = .ok (.if_icmp .ne 10, 3) := by decide +kernel
theorem dX8_kinds_172 : decode cX8_kinds 172 = .ok (.iconst 1, 1) := by decide +kernel
theorem dX8_kinds_173 : decode cX8_kinds 173 = .ok (.iload 9, 2) := by decide +kernel
theorem dX8_kinds_175 : decode cX8_kinds 175 = .ok (.ishl, 1) := by decide +kernel
theorem dX8_kinds_176 : decode cX8_kinds 176 = .ok (.goto 4, 3) := by decide +kernel
theorem dX8_kinds_179 : decode cX8_kinds 179 = .ok (.iconst 0, 1) := by decide +kernel
theorem dX8_kinds_180 : decode cX8_kinds 180 = .ok (.ior, 1) := by decide +kernel
theorem dX8_kinds_181 : decode cX8_kinds 181 = .ok (.istore 8, 2) := by decide +kernel
theorem dX8_kinds_183 : decode cX8_kinds 183 = .ok (.iinc 9 1, 3) := by decide +kernel
theorem dX8_kinds_186 : decode cX8_kinds 186 = .ok (.goto (-114), 3) := by decide +kernel
theorem dX8_kinds_189 : decode cX8_kinds 189 = .ok (.aload_n 0, 1) := by decide +kernel
theorem dX8_kinds_190 : decode cX8_kinds 190 = .ok (.getfield 7, 3) := by decide +kernel
theorem dX8_kinds_193 : decode cX8_kinds 193 = .ok (.iload_n 2, 1) := by decide +kernel
theorem dX8_kinds_194 : decode cX8_kinds 194 = .ok (.iload 5, 2) := by decide +kernel
theorem dX8_kinds_196 : decode cX8_kinds 196 = .ok (.iastore, 1) := by decide +kernel
theorem dX8_kinds_197 : decode cX8_kinds 197 = .ok (.aload_n 0, 1) := by decide +kernel
theorem dX8_kinds_198 : decode cX8_kinds 198 = .ok (.getfield 13, 3) := by decide +kernel
theorem dX8_kinds_201 : decode cX8_kinds 201 = .ok (.iload_n 2, 1) := by decide +kernel
theorem dX8_kinds_202 : decode cX8_kinds 202 = .ok (.iload 6, 2) := by decide +kernel
theorem dX8_kinds_204 : decode cX8_kinds 204 = .ok (.iastore, 1) := by decide +kernel
theorem dX8_kinds_205 : decode cX8_kinds 205 = .ok (.aload_n 0, 1) := by decide +kernel
theorem dX8_kinds_206 : decode cX8_kinds 206 = .ok (.getfield 16, 3) := by decide +kernel
theorem dX8_kinds_209 : decode cX8_kinds 209 = .ok (.iconst 3, 1) := by decide +kernel
theorem dX8_kinds_210 : decode cX8_kinds 210 = .ok (.iload_n 2, 1) := by decide +kernel
theorem dX8_kinds_211 : decode cX8_kinds 211 = .ok (.imul, 1) := by decide +kernel
theorem dX8_kinds_212 : decode cX8_kinds 212 = .ok (.iconst 1, 1) := by decide +kernel
theorem dX8_kinds_213 : decode cX8_kinds 213 = .ok (.iadd, 1) := by decide +kernel
theorem dX8_kinds_214 : decode cX8_kinds 214 = .ok (.iload 7, 2) := by decide +kernel
theorem dX8_kinds_216 : decode cX8_kinds 216 = .ok (.iastore, 1) := by decide +kernel
theorem dX8_kinds_217 : decode cX8_kinds 217 = .ok (.iload 8, 2) := by decide +kernel
theorem dX8_kinds_219 : decode cX8_kinds 219 = .ok (.ireturn, 1) := by decide +kernel
theorem dX8_skipped_0 : decode cX8_skipped 0 = .ok (.aload_n 0, 1) := by decide +kernel
theorem dX8_skipped_1 : decode cX8_skipped 1 = .ok (.iload_n 1, 1) := by decide +kernel
theorem dX8_skipped_2 : decode cX8_skipped 2 = .ok (.invokevirtual 299, 3) := by decide +kernel
theorem dX8_skipped_5 : decode cX8_skipped 5 = .ok (.istore_n 2, 1) := by decide +kernel
theorem dX8_skipped_6 : decode cX8_skipped 6 = .ok (.iload_n 2, 1) := by decide +kernel
theorem dX8_skipped_7 : decode cX8_skipped 7 = .ok (.ifCond .eq 5, 3) := by decide +kernel
theorem dX8_skipped_10 : decode cX8_skipped 10 = .ok (.iload_n 2, 1) := by decide +kernel
theorem dX8_skipped_11 : decode cX8_skipped 11 = .ok (.ireturn, 1) := by decide +kernel
theorem dX8_skipped_12 : decode cX8_skipped 12 = .ok (.aload_n 0, 1) := by decide +kernel
theorem dX8_skipped_13 : decode cX8_skipped 13 = .ok (.getfield 110, 3) := by decide +kernel
theorem dX8_skipped_16 : decode cX8_skipped 16 = .ok (.istore_n 3, 1) := by decide +kernel
theorem dX8_skipped_17 : decode cX8_skipped 17 = .ok (.iconst 0, 1) := by decide +kernel
theorem dX8_skipped_18 : decode cX8_skipped 18 = .ok (.istore 4, 2) := by decide +kernel
theorem dX8_skipped_20 : decode cX8_skipped 20 = .ok (.iconst 0, 1) := by decide +kernel
theorem dX8_skipped_21 : decode cX8_skipped 21 = .ok (.istore 5, 2) := by decide +kernel
theorem dX8_skipped_23 : decode cX8_skipped 23 = .ok (.iload 5, 2) := by decide +kernel
theorem dX8_skipped_25 : decode cX8_skipped 25 = .ok (.bipush 12, 2) := by decide +kernel
theorem dX8_skipped_27 : decode cX8_skipped 27 = .ok (.if_icmp .gt 66, 3) := by decide +kernel
theorem dX8_skipped_30 : decode cX8_skipped 30 = .ok (.iload 5, 2) := by decide +kernel
theorem dX8_skipped_32 : decode cX8_skipped 32 = .ok (.aload_n 0, 1) := by decide +kernel
theorem dX8_skipped_33 : decode cX8_skipped 33 = .ok (.getfield 87, 3) := by decide +kernel
theorem dX8_skipped_36 : decode cX8_skipped 36 = .ok (.if_icmp .lt 10, 3) := by decide +kernel
theorem dX8_skipped_39 : decode cX8_skipped 39 = .ok (.iload 5, 2) := by decide +kernel
theorem dX8_skipped_41 : decode cX8_skipped 41 = .ok (.bipush 12, 2) := by decide +kernel
theorem dX8_skipped_43 : decode cX8_skipped 43 = .ok (.if_icmp .ne 44, 3) := by decide +kernel
theorem dX8_skipped_46 : decode cX8_skipped 46 = .ok (.aload_n 0, 1) := by decide +kernel
theorem dX8_skipped_47 : decode cX8_skipped 47 = .ok (.iload 5, 2) := by decide +kernel
theorem dX8_skipped_49 : decode cX8_skipped 49 = .ok (.bipush 12, 2) := by decide +kernel
theorem dX8_skipped_51 : decode cX8_skipped 51 = .ok (.if_icmp .ne 7, 3) := by decide +kernel
theorem dX8_skipped_54 : decode cX8_skipped 54 = .ok (.iconst 0, 1) := by decide +kernel
theorem dX8_skipped_55 : decode cX8_skipped 55 = .ok (.goto 7, 3) := by decide +kernel
theorem dX8_skipped_58 : decode cX8_skipped 58 = .ok (.iconst 1, 1) := by decide +kernel
theorem dX8_skipped_59 : decode cX8_skipped 59 = .ok (.iload 5, 2) := by decide +kernel
theorem dX8_skipped_61 : decode cX8_skipped 61 = .ok (.ishl, 1) := by decide +kernel
theorem dX8_skipped_62 : decode cX8_skipped 62 = .ok (.putfield 110, 3) := by decide +kernel
theorem dX8_skipped_65 : decode cX8_skipped 65 = .ok (.iload 4, 2) := by decide +kernel
theorem dX8_skipped_67 : decode cX8_skipped 67 = .ok (.aload_n 0, 1) := by decide +kernel
theorem dX8_skipped_68 : decode cX8_skipped 68 = .ok (.iload_n 1, 1) := by decide +kernel
theorem dX8_skipped_69 : decode cX8_skipped 69 = .ok (.invokevirtual 302, 3) := by decide +kernel
theorem dX8_skipped_72 : decode cX8_skipped 72 = .ok (.iconst (-1), 1) := by decide +kernel
theorem dX8_skipped_73 : decode cX8_skipped 73 = .ok (.if_icmp .ne 10, 3) := by decide +kernel
theorem dX8_skipped_76 : decode cX8_skipped 76 = .ok (.iconst 1, 1) := by decide +kernel
theorem dX8_skipped_77 : decode cX8_skipped 77 = .ok (.iload 5, 2) := by decide +kernel
theorem dX8_skipped_79 : decode cX8_skipped 79 = .ok (.ishl, 1) := by decide +kernel
theorem dX8_skipped_80 : decode cX8_skipped 80 = .ok (.goto 4, 3) := by decide +kernel
theorem dX8_skipped_83 : decode cX8_skipped 83 = .ok (.iconst 0, 1) := by decide +kernel
theorem dX8_skipped_84 : decode cX8_skipped 84 = .ok (.ior, 1) := by decide +kernel
theorem dX8_skipped_85 : decode cX8_skipped 85 = .ok (.istore 4, 2) := by decide +kernel
theorem dX8_skipped_87 : decode cX8_skipped 87 = .ok (.iinc 5 1, 3) := by decide +kernel
theorem dX8_skipped_90 : decode cX8_skipped 90 = .ok (.goto (-67), 3) := by decide +kernel
theorem dX8_skipped_93 : decode cX8_skipped 93 = .ok (.aload_n 0, 1) := by decide +kernel
theorem dX8_skipped_94 : decode cX8_skipped 94 = .ok (.iload_n 3, 1) := by decide +kernel
theorem dX8_skipped_95 : decode cX8_skipped 95 = .ok (.putfield 110, 3) := by decide +kernel
theorem dX8_skipped_98 : decode cX8_skipped 98 = .ok (.iload 4, 2) := by decide +kernel
theorem dX8_skipped_100 : decode cX8_skipped 100 = .ok (.ireturn, 1) := by decide +kernel
theorem dX8_laws_0 : decode cX8_laws 0 = .ok (.aload_n 0, 1) := by decide +kernel
theorem dX8_laws_1 : decode cX8_laws 1 = .ok (.iload_n 1, 1) := by decide +kernel
theorem dX8_laws_2 : decode cX8_laws 2 = .ok (.invokevirtual 299, 3) := by decide +kernel
theorem dX8_laws_5 : decode cX8_laws 5 = .ok (.istore_n 2, 1) := by decide +kernel
theorem dX8_laws_6 : decode cX8_laws 6 = .ok (.iload_n 2, 1) := by decide +kernel
theorem dX8_laws_7 : decode cX8_laws 7 = .ok (.ifCond .eq 5, 3) := by decide +kernel
theorem dX8_laws_10 : decode cX8_laws 10 = .ok (.iload_n 2, 1) := by decide +kernel
theorem dX8_laws_11 : decode cX8_laws 11 = .ok (.ireturn, 1) := by decide +kernel
theorem dX8_laws_12 : decode cX8_laws 12 = .ok (.aload_n 0, 1) := by decide +kernel
theorem dX8_laws_13 : decode cX8_laws 13 = .ok (.getfield 116, 3) := by decide +kernel
theorem dX8_laws_16 : decode cX8_laws 16 = .ok (.istore_n 3, 1) := by decide +kernel
theorem dX8_laws_17 : decode cX8_laws 17 = .ok (.iconst 0, 1) := by decide +kernel
theorem dX8_laws_18 : decode cX8_laws 18 = .ok (.istore 4, 2) := by decide +kernel
theorem dX8_laws_20 : decode cX8_laws 20 = .ok (.iconst 0, 1) := by decide +kernel
theorem dX8_laws_21 : decode cX8_laws 21 = .ok (.istore 5, 2) := by decide +kernel
theorem dX8_laws_23 : decode cX8_laws 23 = .ok (.iload 5, 2) := by decide +kernel
theorem dX8_laws_25 : decode cX8_laws 25 = .ok (.aload_n 0, 1) := by decide +kernel
theorem dX8_laws_26 : decode cX8_laws 26 = .ok (.getfield 113, 3) := by decide +kernel
theorem dX8_laws_29 : decode cX8_laws 29 = .ok (.if_icmp .ge 37, 3) := by decide +kernel
theorem dX8_laws_32 : decode cX8_laws 32 = .ok (.aload_n 0, 1) := by decide +kernel
theorem dX8_laws_33 : decode cX8_laws 33 = .ok (.iload 5, 2) := by decide +kernel
theorem dX8_laws_35 : decode cX8_laws 35 = .ok (.putfield 116, 3) := by decide +kernel
theorem dX8_laws_38 : decode cX8_laws 38 = .ok (.iload 4, 2) := by decide +kernel
theorem dX8_laws_40 : decode cX8_laws 40 = .ok (.aload_n 0, 1) := by decide +kernel
theorem dX8_laws_41 : decode cX8_laws 41 = .ok (.iload_n 1, 1) := by decide +kernel
theorem dX8_laws_42 : decode cX8_laws 42 = .ok (.invokevirtual 302, 3) := by decide +kernel
theorem dX8_laws_45 : decode cX8_laws 45 = .ok (.iconst (-1), 1) := by decide +kernel
theorem dX8_laws_46 : decode cX8_laws 46 = .ok (.if_icmp .ne 10, 3) := by decide +kernel
theorem dX8_laws_49 : decode cX8_laws 49 = .ok (.iconst 1, 1) := by decide +kernel
theorem dX8_laws_50 : decode cX8_laws 50 = .ok (.iload 5, 2) := by decide +kernel
theorem dX8_laws_52 : decode cX8_laws 52 = .ok (.ishl, 1) := by decide +kernel
theorem dX8_laws_53 : decode cX8_laws 53 = .ok (.goto 4, 3) := by decide +kernel
theorem dX8_laws_56 : decode cX8_laws 56 = .ok (.iconst 0, 1) := by decide +kernel
theorem dX8_laws_57 : decode cX8_laws 57 = .ok (.ior, 1) := by decide +kernel
theorem dX8_laws_58 : decode cX8_laws 58 = .ok (.istore 4, 2) := by decide +kernel
theorem dX8_laws_60 : decode cX8_laws 60 = .ok (.iinc 5 1, 3) := by decide +kernel
theorem dX8_laws_63 : decode cX8_laws 63 = .ok (.goto (-40), 3) := by decide +kernel
theorem dX8_laws_66 : decode cX8_laws 66 = .ok (.aload_n 0, 1) := by decide +kernel
theorem dX8_laws_67 : decode cX8_laws 67 = .ok (.iload_n 3, 1) := by decide +kernel
theorem dX8_laws_68 : decode cX8_laws 68 = .ok (.putfield 116, 3) := by decide +kernel
theorem dX8_laws_71 : decode cX8_laws 71 = .ok (.iload 4, 2) := by decide +kernel
theorem dX8_laws_73 : decode cX8_laws 73 = .ok (.ireturn, 1) := by decide +kernel
theorem dX8_film_0 : decode cX8_film 0 = .ok (.iload_n 1, 1) := by decide +kernel
theorem dX8_film_1 : decode cX8_film 1 = .ok (.iconst 0, 1) := by decide +kernel
theorem dX8_film_2 : decode cX8_film 2 = .ok (.iconst 3, 1) := by decide +kernel
theorem dX8_film_3 : decode cX8_film 3 = .ok (.invokestatic 90, 3) := by decide +kernel
theorem dX8_film_6 : decode cX8_film 6 = .ok (.ifCond .eq 13, 3) := by decide +kernel
theorem dX8_film_9 : decode cX8_film 9 = .ok (.iload_n 2, 1) := by decide +kernel
theorem dX8_film_10 : decode cX8_film 10 = .ok (.iconst 0, 1) := by decide +kernel
theorem dX8_film_11 : decode cX8_film 11 = .ok (.bipush 40, 2) := by decide +kernel
theorem dX8_film_13 : decode cX8_film 13 = .ok (.invokestatic 90, 3) := by decide +kernel
theorem dX8_film_16 : decode cX8_film 16 = .ok (.ifCond .ne 6, 3) := by decide +kernel
theorem dX8_film_19 : decode cX8_film 19 = .ok (.bipush (-2), 2) := by decide +kernel
theorem dX8_film_21 : decode cX8_film 21 = .ok (.ireturn, 1) := by decide +kernel
theorem dX8_film_22 : decode cX8_film 22 = .ok (.aload_n 0, 1) := by decide +kernel
theorem dX8_film_23 : decode cX8_film 23 = .ok (.getfield 44, 3) := by decide +kernel
theorem dX8_film_26 : decode cX8_film 26 = .ok (.iload_n 1, 1) := by decide +kernel
theorem dX8_film_27 : decode cX8_film 27 = .ok (.iconst 1, 1) := by decide +kernel
theorem dX8_film_28 : decode cX8_film 28 = .ok (.iastore, 1) := by decide +kernel
theorem dX8_film_29 : decode cX8_film 29 = .ok (.aload_n 0, 1) := by decide +kernel
theorem dX8_film_30 : decode cX8_film 30 = .ok (.getfield 47, 3) := by decide +kernel
theorem dX8_film_33 : decode cX8_film 33 = .ok (.iload_n 1, 1) := by decide +kernel
theorem dX8_film_34 : decode cX8_film 34 = .ok (.iload_n 2, 1) := by decide +kernel
theorem dX8_film_35 : decode cX8_film 35 = .ok (.iastore, 1) := by decide +kernel
theorem dX8_film_36 : decode cX8_film 36 = .ok (.aload_n 0, 1) := by decide +kernel
theorem dX8_film_37 : decode cX8_film 37 = .ok (.invokevirtual 275, 3) := by decide +kernel
theorem dX8_film_40 : decode cX8_film 40 = .ok (.iconst 0, 1) := by decide +kernel
theorem dX8_film_41 : decode cX8_film 41 = .ok (.istore_n 3, 1) := by decide +kernel
theorem dX8_film_42 : decode cX8_film 42 = .ok (.iload_n 3, 1) := by decide +kernel
theorem dX8_film_43 : decode cX8_film 43 = .ok (.bipush 40, 2) := by decide +kernel
theorem dX8_film_45 : decode cX8_film 45 = .ok (.if_icmp .ge 37, 3) := by decide +kernel
theorem dX8_film_48 : decode cX8_film 48 = .ok (.aload_n 0, 1) := by decide +kernel
theorem dX8_film_49 : decode cX8_film 49 = .ok (.invokevirtual 251, 3) := by decide +kernel
theorem dX8_film_52 : decode cX8_film 52 = .ok (.aload_n 0, 1) := by decide +kernel
theorem dX8_film_53 : decode cX8_film 53 = .ok (.getfield 50, 3) := by decide +kernel
theorem dX8_film_56 : decode cX8_film 56 = .ok (.bipush 40, 2) := by decide +kernel
theorem dX8_film_58 : decode cX8_film 58 = .ok (.iload_n 1, 1) := by decide +kernel
theorem dX8_film_59 : decode cX8_film 59 = .ok (.imul, 1) := by decide +kernel
theorem dX8_film_60 : decode cX8_film 60 = .ok (.iload_n 3, 1) := by decide +kernel
theorem dX8_film_61 : decode cX8_film 61 = .ok (.iadd, 1) := by decide +kernel
theorem dX8_film_62 : decode cX8_film 62 = .ok (.iload_n 3, 1) := by decide +kernel
theorem dX8_film_63 : decode cX8_film 63 = .ok (.iload_n 2, 1) := by decide +kernel
theorem dX8_film_64 : decode cX8_film 64 = .ok (.if_icmp .ge 10, 3) := by decide +kernel
theorem dX8_film_67 : decode cX8_film 67 = .ok (.aload_n 0, 1) := by decide +kernel
theorem dX8_film_68 : decode cX8_film 68 = .ok (.invokevirtual 230, 3) := by decide +kernel
theorem dX8_film_71 : decode cX8_film 71 = .ok (.goto 4, 3) := by decide +kernel
theorem dX8_film_74 : decode cX8_film 74 = .ok (.iconst 0, 1) := by decide +kernel
theorem dX8_film_75 : decode cX8_film 75 = .ok (.iastore, 1) := by decide +kernel
theorem dX8_film_76 : decode cX8_film 76 = .ok (.iinc 3 1, 3) := by decide +kernel
theorem dX8_film_79 : decode cX8_film 79 = .ok (.goto (-37), 3) := by decide +kernel
theorem dX8_film_82 : decode cX8_film 82 = .ok (.aload_n 0, 1) := by decide +kernel
theorem dX8_film_83 : decode cX8_film 83 = .ok (.invokevirtual 281, 3) := by decide +kernel
theorem dX8_film_86 : decode cX8_film 86 = .ok (.iload_n 2, 1) := by decide +kernel
theorem dX8_film_87 : decode cX8_film 87 = .ok (.ireturn, 1) := by decide +kernel
theorem dX8_goesByLots_0 : decode cX8_goesByLots 0 = .ok (.iload_n 1, 1) := by decide +kernel
theorem dX8_goesByLots_1 : decode cX8_goesByLots 1 = .ok (.i2l, 1) := by decide +kernel
theorem dX8_goesByLots_2 : decode cX8_goesByLots 2 = .ok (.lconst 1, 1) := by decide +kernel
theorem dX8_goesByLots_3 : decode cX8_goesByLots 3 = .ok (.ladd, 1) := by decide +kernel
theorem dX8_goesByLots_4 : decode cX8_goesByLots 4 = .ok (.lstore 4, 2) := by decide +kernel
theorem dX8_goesByLots_6 : decode cX8_goesByLots 6 = .ok (.aload_n 0, 1) := by decide +kernel
theorem dX8_goesByLots_7 : decode cX8_goesByLots 7 = .ok (.invokevirtual 275, 3) := by decide +kernel
theorem dX8_goesByLots_10 : decode cX8_goesByLots 10 = .ok (.iconst 0, 1) := by decide +kernel
theorem dX8_goesByLots_11 : decode cX8_goesByLots 11 = .ok (.istore 6, 2) := by decide +kernel
theorem dX8_goesByLots_13 : decode cX8_goesByLots 13 = .ok (.iload 6, 2) := by decide +kernel
theorem dX8_goesByLots_15 : decode cX8_goesByLots 15 = .ok (.iload_n 2, 1) := by decide +kernel
theorem dX8_goesByLots_16 : decode cX8_goesByLots 16 = .ok (.if_icmp .ge 66, 3) := by decide +kernel
theorem dX8_goesByLots_19 : decode cX8_goesByLots 19 = .ok (.lload 4, 2) := by decide +kernel
theorem dX8_goesByLots_21 : decode cX8_goesByLots 21 = .ok (.ldc2_w 305, 3) := by decide +kernel
theorem dX8_goesByLots_24 : decode cX8_goesByLots 24 = .ok (.lmul, 1) := by decide +kernel
theorem dX8_goesByLots_25 : decode cX8_goesByLots 25 = .ok (.ldc2_w 307, 3) := by decide +kernel
theorem dX8_goesByLots_28 : decode cX8_goesByLots 28 = .ok (.lrem, 1) := by decide +kernel
theorem dX8_goesByLots_29 : decode cX8_goesByLots 29 = .ok (.lstore 4, 2) := by decide +kernel
theorem dX8_goesByLots_31 : decode cX8_goesByLots 31 = .ok (.aload_n 0, 1) := by decide +kernel
theorem dX8_goesByLots_32 : decode cX8_goesByLots 32 = .ok (.lload 4, 2) := by decide +kernel
theorem dX8_goesByLots_34 : decode cX8_goesByLots 34 = .ok (.ldc2_w 309, 3) := by decide +kernel
theorem dX8_goesByLots_37 : decode cX8_goesByLots 37 = .ok (.lrem, 1) := by decide +kernel
theorem dX8_goesByLots_38 : decode cX8_goesByLots 38 = .ok (.iload_n 3, 1) := by decide +kernel
theorem dX8_goesByLots_39 : decode cX8_goesByLots 39 = .ok (.i2l, 1) := by decide +kernel
theorem dX8_goesByLots_40 : decode cX8_goesByLots 40 = .ok (.lcmp, 1) := by decide +kernel
theorem dX8_goesByLots_41 : decode cX8_goesByLots 41 = .ok (.ifCond .ge 22, 3) := by decide +kernel
theorem dX8_goesByLots_44 : decode cX8_goesByLots 44 = .ok (.iload 6, 2) := by decide +kernel
theorem dX8_goesByLots_46 : decode cX8_goesByLots 46 = .ok (.ifCond .le 17, 3) := by decide +kernel
theorem dX8_goesByLots_49 : decode cX8_goesByLots 49 = .ok (.aload_n 0, 1) := by decide +kernel
theorem dX8_goesByLots_50 : decode cX8_goesByLots 50 = .ok (.getfield 87, 3) := by decide +kernel
theorem dX8_goesByLots_53 : decode cX8_goesByLots 53 = .ok (.ifCond .le 10, 3) := by decide +kernel
theorem dX8_goesByLots_56 : decode cX8_goesByLots 56 = .ok (.aload_n 0, 1) := by decide +kernel
theorem dX8_goesByLots_57 : decode cX8_goesByLots 57 = .ok (.getfield 245, 3) := by decide +kernel
theorem dX8_goesByLots_60 : decode cX8_goesByLots 60 = .ok (.goto 7, 3) := by decide +kernel
theorem dX8_goesByLots_63 : decode cX8_goesByLots 63 = .ok (.aload_n 0, 1) := by decide +kernel
theorem dX8_goesByLots_64 : decode cX8_goesByLots 64 = .ok (.getfield 104, 3) := by decide +kernel
theorem dX8_goesByLots_67 : decode cX8_goesByLots 67 = .ok (.putfield 104, 3) := by decide +kernel
theorem dX8_goesByLots_70 : decode cX8_goesByLots 70 = .ok (.aload_n 0, 1) := by decide +kernel
theorem dX8_goesByLots_71 : decode cX8_goesByLots 71 = .ok (.iload 6, 2) := by decide +kernel
theorem dX8_goesByLots_73 : decode cX8_goesByLots 73 = .ok (.invokevirtual 278, 3) := by decide +kernel
theorem dX8_goesByLots_76 : decode cX8_goesByLots 76 = .ok (.iinc 6 1, 3) := by decide +kernel
theorem dX8_goesByLots_79 : decode cX8_goesByLots 79 = .ok (.goto (-66), 3) := by decide +kernel
theorem dX8_goesByLots_82 : decode cX8_goesByLots 82 = .ok (.aload_n 0, 1) := by decide +kernel
theorem dX8_goesByLots_83 : decode cX8_goesByLots 83 = .ok (.invokevirtual 281, 3) := by decide +kernel
theorem dX8_goesByLots_86 : decode cX8_goesByLots 86 = .ok (.aload_n 0, 1) := by decide +kernel
theorem dX8_goesByLots_87 : decode cX8_goesByLots 87 = .ok (.getfield 254, 3) := by decide +kernel
theorem dX8_goesByLots_90 : decode cX8_goesByLots 90 = .ok (.ireturn, 1) := by decide +kernel
theorem dX8_drawn_0 : decode cX8_drawn 0 = .ok (.iload_n 1, 1) := by decide +kernel
theorem dX8_drawn_1 : decode cX8_drawn 1 = .ok (.iconst 0, 1) := by decide +kernel
theorem dX8_drawn_2 : decode cX8_drawn 2 = .ok (.ldc_w 311, 3) := by decide +kernel
theorem dX8_drawn_5 : decode cX8_drawn 5 = .ok (.invokestatic 90, 3) := by decide +kernel
theorem dX8_drawn_8 : decode cX8_drawn 8 = .ok (.ifCond .eq 32, 3) := by decide +kernel
theorem dX8_drawn_11 : decode cX8_drawn 11 = .ok (.iload_n 2, 1) := by decide +kernel
theorem dX8_drawn_12 : decode cX8_drawn 12 = .ok (.iconst 0, 1) := by decide +kernel
theorem dX8_drawn_13 : decode cX8_drawn 13 = .ok (.bipush 60, 2) := by decide +kernel
theorem dX8_drawn_15 : decode cX8_drawn 15 = .ok (.invokestatic 90, 3) := by decide +kernel
theorem dX8_drawn_18 : decode cX8_drawn 18 = .ok (.ifCond .eq 22, 3) := by decide +kernel
theorem dX8_drawn_21 : decode cX8_drawn 21 = .ok (.iload_n 3, 1) := by decide +kernel
theorem dX8_drawn_22 : decode cX8_drawn 22 = .ok (.iconst 0, 1) := by decide +kernel
theorem dX8_drawn_23 : decode cX8_drawn 23 = .ok (.sipush 1004, 3) := by decide +kernel
theorem dX8_drawn_26 : decode cX8_drawn 26 = .ok (.invokestatic 90, 3) := by decide +kernel
theorem dX8_drawn_29 : decode cX8_drawn 29 = .ok (.ifCond .eq 11, 3) := by decide +kernel
theorem dX8_drawn_32 : decode cX8_drawn 32 = .ok (.iload_n 3, 1) := by decide +kernel
theorem dX8_drawn_33 : decode cX8_drawn 33 = .ok (.bipush 10, 2) := by decide +kernel
theorem dX8_drawn_35 : decode cX8_drawn 35 = .ok (.irem, 1) := by decide +kernel
theorem dX8_drawn_36 : decode cX8_drawn 36 = .ok (.iconst 4, 1) := by decide +kernel
theorem dX8_drawn_37 : decode cX8_drawn 37 = .ok (.if_icmp .le 6, 3) := by decide +kernel
theorem dX8_drawn_40 : decode cX8_drawn 40 = .ok (.bipush (-2), 2) := by decide +kernel
theorem dX8_drawn_42 : decode cX8_drawn 42 = .ok (.ireturn, 1) := by decide +kernel
theorem dX8_drawn_43 : decode cX8_drawn 43 = .ok (.aload_n 0, 1) := by decide +kernel
theorem dX8_drawn_44 : decode cX8_drawn 44 = .ok (.iload_n 1, 1) := by decide +kernel
theorem dX8_drawn_45 : decode cX8_drawn 45 = .ok (.iload_n 2, 1) := by decide +kernel
theorem dX8_drawn_46 : decode cX8_drawn 46 = .ok (.iload_n 3, 1) := by decide +kernel
theorem dX8_drawn_47 : decode cX8_drawn 47 = .ok (.bipush 10, 2) := by decide +kernel
theorem dX8_drawn_49 : decode cX8_drawn 49 = .ok (.idiv, 1) := by decide +kernel
theorem dX8_drawn_50 : decode cX8_drawn 50 = .ok (.invokevirtual 312, 3) := by decide +kernel
theorem dX8_drawn_53 : decode cX8_drawn 53 = .ok (.pop, 1) := by decide +kernel
theorem dX8_drawn_54 : decode cX8_drawn 54 = .ok (.aload_n 0, 1) := by decide +kernel
theorem dX8_drawn_55 : decode cX8_drawn 55 = .ok (.iload_n 3, 1) := by decide +kernel
theorem dX8_drawn_56 : decode cX8_drawn 56 = .ok (.bipush 10, 2) := by decide +kernel
theorem dX8_drawn_58 : decode cX8_drawn 58 = .ok (.irem, 1) := by decide +kernel
theorem dX8_drawn_59 : decode cX8_drawn 59 = .ok (.invokevirtual 287, 3) := by decide +kernel
theorem dX8_drawn_62 : decode cX8_drawn 62 = .ok (.ireturn, 1) := by decide +kernel
theorem dX8_lowest_0 : decode cX8_lowest 0 = .ok (.lload_n 0, 1) := by decide +kernel
theorem dX8_lowest_1 : decode cX8_lowest 1 = .ok (.lconst 0, 1) := by decide +kernel
theorem dX8_lowest_2 : decode cX8_lowest 2 = .ok (.lcmp, 1) := by decide +kernel
theorem dX8_lowest_3 : decode cX8_lowest 3 = .ok (.ifCond .ne 7, 3) := by decide +kernel
theorem dX8_lowest_6 : decode cX8_lowest 6 = .ok (.iload 4, 2) := by decide +kernel
theorem dX8_lowest_8 : decode cX8_lowest 8 = .ok (.i2l, 1) := by decide +kernel
theorem dX8_lowest_9 : decode cX8_lowest 9 = .ok (.lreturn, 1) := by decide +kernel
theorem dX8_lowest_10 : decode cX8_lowest 10 = .ok (.lload_n 0, 1) := by decide +kernel
theorem dX8_lowest_11 : decode cX8_lowest 11 = .ok (.lstore 5, 2) := by decide +kernel
theorem dX8_lowest_13 : decode cX8_lowest 13 = .ok (.lload_n 2, 1) := by decide +kernel
theorem dX8_lowest_14 : decode cX8_lowest 14 = .ok (.lstore 7, 2) := by decide +kernel
theorem dX8_lowest_16 : decode cX8_lowest 16 = .ok (.lload 7, 2) := by decide +kernel
theorem dX8_lowest_18 : decode cX8_lowest 18 = .ok (.lconst 0, 1) := by decide +kernel
theorem dX8_lowest_19 : decode cX8_lowest 19 = .ok (.lcmp, 1) := by decide +kernel
theorem dX8_lowest_20 : decode cX8_lowest 20 = .ok (.ifCond .eq 21, 3) := by decide +kernel
theorem dX8_lowest_23 : decode cX8_lowest 23 = .ok (.lload 5, 2) := by decide +kernel
theorem dX8_lowest_25 : decode cX8_lowest 25 = .ok (.lload 7, 2) := by decide +kernel
theorem dX8_lowest_27 : decode cX8_lowest 27 = .ok (.lrem, 1) := by decide +kernel
theorem dX8_lowest_28 : decode cX8_lowest 28 = .ok (.lstore 9, 2) := by decide +kernel
theorem dX8_lowest_30 : decode cX8_lowest 30 = .ok (.lload 7, 2) := by decide +kernel
theorem dX8_lowest_32 : decode cX8_lowest 32 = .ok (.lstore 5, 2) := by decide +kernel
theorem dX8_lowest_34 : decode cX8_lowest 34 = .ok (.lload 9, 2) := by decide +kernel
theorem dX8_lowest_36 : decode cX8_lowest 36 = .ok (.lstore 7, 2) := by decide +kernel
theorem dX8_lowest_38 : decode cX8_lowest 38 = .ok (.goto (-22), 3) := by decide +kernel
theorem dX8_lowest_41 : decode cX8_lowest 41 = .ok (.iload 4, 2) := by decide +kernel
theorem dX8_lowest_43 : decode cX8_lowest 43 = .ok (.ifCond .ne 7, 3) := by decide +kernel
theorem dX8_lowest_46 : decode cX8_lowest 46 = .ok (.lload_n 0, 1) := by decide +kernel
theorem dX8_lowest_47 : decode cX8_lowest 47 = .ok (.goto 4, 3) := by decide +kernel
theorem dX8_lowest_50 : decode cX8_lowest 50 = .ok (.lload_n 2, 1) := by decide +kernel
theorem dX8_lowest_51 : decode cX8_lowest 51 = .ok (.lload 5, 2) := by decide +kernel
theorem dX8_lowest_53 : decode cX8_lowest 53 = .ok (.ldiv, 1) := by decide +kernel
theorem dX8_lowest_54 : decode cX8_lowest 54 = .ok (.lreturn, 1) := by decide +kernel
theorem dX8_odds_0 : decode cX8_odds 0 = .ok (.iload_n 1, 1) := by decide +kernel
theorem dX8_odds_1 : decode cX8_odds 1 = .ok (.iconst 0, 1) := by decide +kernel
theorem dX8_odds_2 : decode cX8_odds 2 = .ok (.ldc_w 311, 3) := by decide +kernel
theorem dX8_odds_5 : decode cX8_odds 5 = .ok (.invokestatic 90, 3) := by decide +kernel
theorem dX8_odds_8 : decode cX8_odds 8 = .ok (.ifCond .eq 60, 3) := by decide +kernel
theorem dX8_odds_11 : decode cX8_odds 11 = .ok (.iload_n 2, 1) := by decide +kernel
theorem dX8_odds_12 : decode cX8_odds 12 = .ok (.iconst 0, 1) := by decide +kernel
theorem dX8_odds_13 : decode cX8_odds 13 = .ok (.sipush 6030, 3) := by decide +kernel
theorem dX8_odds_16 : decode cX8_odds 16 = .ok (.invokestatic 90, 3) := by decide +kernel
theorem dX8_odds_19 : decode cX8_odds 19 = .ok (.ifCond .eq 49, 3) := by decide +kernel
theorem dX8_odds_22 : decode cX8_odds 22 = .ok (.iload_n 2, 1) := by decide +kernel
theorem dX8_odds_23 : decode cX8_odds 23 = .ok (.bipush 100, 2) := by decide +kernel
theorem dX8_odds_25 : decode cX8_odds 25 = .ok (.irem, 1) := by decide +kernel
theorem dX8_odds_26 : decode cX8_odds 26 = .ok (.iconst 1, 1) := by decide +kernel
theorem dX8_odds_27 : decode cX8_odds 27 = .ok (.bipush 30, 2) := by decide +kernel
theorem dX8_odds_29 : decode cX8_odds 29 = .ok (.invokestatic 90, 3) := by decide +kernel
theorem dX8_odds_32 : decode cX8_odds 32 = .ok (.ifCond .eq 36, 3) := by decide +kernel
theorem dX8_odds_35 : decode cX8_odds 35 = .ok (.aload_n 0, 1) := by decide +kernel
theorem dX8_odds_36 : decode cX8_odds 36 = .ok (.iload_n 3, 1) := by decide +kernel
theorem dX8_odds_37 : decode cX8_odds 37 = .ok (.invokevirtual 201, 3) := by decide +kernel
theorem dX8_odds_40 : decode cX8_odds 40 = .ok (.ifCond .eq 28, 3) := by decide +kernel
theorem dX8_odds_43 : decode cX8_odds 43 = .ok (.iload 4, 2) := by decide +kernel
theorem dX8_odds_45 : decode cX8_odds 45 = .ok (.iconst 0, 1) := by decide +kernel
theorem dX8_odds_46 : decode cX8_odds 46 = .ok (.bipush 100, 2) := by decide +kernel
theorem dX8_odds_48 : decode cX8_odds 48 = .ok (.invokestatic 90, 3) := by decide +kernel
theorem dX8_odds_51 : decode cX8_odds 51 = .ok (.ifCond .eq 17, 3) := by decide +kernel
theorem dX8_odds_54 : decode cX8_odds 54 = .ok (.iload 5, 2) := by decide +kernel
theorem dX8_odds_56 : decode cX8_odds 56 = .ok (.iconst 0, 1) := by decide +kernel
theorem dX8_odds_57 : decode cX8_odds 57 = .ok (.iconst 1, 1) := by decide +kernel
theorem dX8_odds_58 : decode cX8_odds 58 = .ok (.invokestatic 90, 3) := by decide +kernel
theorem dX8_odds_61 : decode cX8_odds 61 = .ok (.ifCond .eq 7, 3) := by decide +kernel
theorem dX8_odds_64 : decode cX8_odds 64 = .ok (.iconst 1, 1) := by decide +kernel
theorem dX8_odds_65 : decode cX8_odds 65 = .ok (.goto 4, 3) := by decide +kernel
theorem dX8_odds_68 : decode cX8_odds 68 = .ok (.iconst 0, 1) := by decide +kernel
theorem dX8_odds_69 : decode cX8_odds 69 = .ok (.istore 6, 2) := by decide +kernel
theorem dX8_odds_71 : decode cX8_odds 71 = .ok (.iload 6, 2) := by decide +kernel
theorem dX8_odds_73 : decode cX8_odds 73 = .ok (.ifCond .ne 7, 3) := by decide +kernel
theorem dX8_odds_76 : decode cX8_odds 76 = .ok (.ldc2_w 315, 3) := by decide +kernel
theorem dX8_odds_79 : decode cX8_odds 79 = .ok (.lreturn, 1) := by decide +kernel
theorem dX8_odds_80 : decode cX8_odds 80 = .ok (.lconst 0, 1) := by decide +kernel
theorem dX8_odds_81 : decode cX8_odds 81 = .ok (.lstore 7, 2) := by decide +kernel
theorem dX8_odds_83 : decode cX8_odds 83 = .ok (.iconst 0, 1) := by decide +kernel
theorem dX8_odds_84 : decode cX8_odds 84 = .ok (.istore 9, 2) := by decide +kernel
theorem dX8_odds_86 : decode cX8_odds 86 = .ok (.iload 9, 2) := by decide +kernel
theorem dX8_odds_88 : decode cX8_odds 88 = .ok (.iload_n 2, 1) := by decide +kernel
theorem dX8_odds_89 : decode cX8_odds 89 = .ok (.bipush 100, 2) := by decide +kernel
theorem dX8_odds_91 : decode cX8_odds 91 = .ok (.irem, 1) := by decide +kernel
theorem dX8_odds_92 : decode cX8_odds 92 = .ok (.if_icmp .ge 38, 3) := by decide +kernel
theorem dX8_odds_95 : decode cX8_odds 95 = .ok (.aload_n 0, 1) := by decide +kernel
theorem dX8_odds_96 : decode cX8_odds 96 = .ok (.iload_n 1, 1) := by decide +kernel
theorem dX8_odds_97 : decode cX8_odds 97 = .ok (.iload 9, 2) := by decide +kernel
theorem dX8_odds_99 : decode cX8_odds 99 = .ok (.iadd, 1) := by decide +kernel
theorem dX8_odds_100 : decode cX8_odds 100 = .ok (.iload_n 2, 1) := by decide +kernel
theorem dX8_odds_101 : decode cX8_odds 101 = .ok (.bipush 100, 2) := by decide +kernel
theorem dX8_odds_103 : decode cX8_odds 103 = .ok (.idiv, 1) := by decide +kernel
theorem dX8_odds_104 : decode cX8_odds 104 = .ok (.iload 4, 2) := by decide +kernel
theorem dX8_odds_106 : decode cX8_odds 106 = .ok (.invokevirtual 312, 3) := by decide +kernel
theorem dX8_odds_109 : decode cX8_odds 109 = .ok (.pop, 1) := by decide +kernel
theorem dX8_odds_110 : decode cX8_odds 110 = .ok (.lload 7, 2) := by decide +kernel
theorem dX8_odds_112 : decode cX8_odds 112 = .ok (.aload_n 0, 1) := by decide +kernel
theorem dX8_odds_113 : decode cX8_odds 113 = .ok (.getfield 260, 3) := by decide +kernel
theorem dX8_odds_116 : decode cX8_odds 116 = .ok (.iload_n 3, 1) := by decide +kernel
theorem dX8_odds_117 : decode cX8_odds 117 = .ok (.ishr, 1) := by decide +kernel
theorem dX8_odds_118 : decode cX8_odds 118 = .ok (.iconst 1, 1) := by decide +kernel
theorem dX8_odds_119 : decode cX8_odds 119 = .ok (.iand, 1) := by decide +kernel
theorem dX8_odds_120 : decode cX8_odds 120 = .ok (.i2l, 1) := by decide +kernel
theorem dX8_odds_121 : decode cX8_odds 121 = .ok (.ladd, 1) := by decide +kernel
theorem dX8_odds_122 : decode cX8_odds 122 = .ok (.lstore 7, 2) := by decide +kernel
theorem dX8_odds_124 : decode cX8_odds 124 = .ok (.iinc 9 1, 3) := by decide +kernel
theorem dX8_odds_127 : decode cX8_odds 127 = .ok (.goto (-41), 3) := by decide +kernel
theorem dX8_odds_130 : decode cX8_odds 130 = .ok (.lload 7, 2) := by decide +kernel
theorem dX8_odds_132 : decode cX8_odds 132 = .ok (.iload_n 2, 1) := by decide +kernel
theorem dX8_odds_133 : decode cX8_odds 133 = .ok (.bipush 100, 2) := by decide +kernel
theorem dX8_odds_135 : decode cX8_odds 135 = .ok (.irem, 1) := by decide +kernel
theorem dX8_odds_136 : decode cX8_odds 136 = .ok (.i2l, 1) := by decide +kernel
theorem dX8_odds_137 : decode cX8_odds 137 = .ok (.iload 5, 2) := by decide +kernel
theorem dX8_odds_139 : decode cX8_odds 139 = .ok (.invokestatic 317, 3) := by decide +kernel
theorem dX8_odds_142 : decode cX8_odds 142 = .ok (.lreturn, 1) := by decide +kernel
theorem dX8_image_0 : decode cX8_image 0 = .ok (.aload_n 0, 1) := by decide +kernel
theorem dX8_image_1 : decode cX8_image 1 = .ok (.iconst 1, 1) := by decide +kernel
theorem dX8_image_2 : decode cX8_image 2 = .ok (.putfield 321, 3) := by decide +kernel
theorem dX8_image_5 : decode cX8_image 5 = .ok (.aload_n 0, 1) := by decide +kernel
theorem dX8_image_6 : decode cX8_image 6 = .ok (.aload_n 0, 1) := by decide +kernel
theorem dX8_image_7 : decode cX8_image 7 = .ok (.getfield 87, 3) := by decide +kernel
theorem dX8_image_10 : decode cX8_image 10 = .ok (.putfield 325, 3) := by decide +kernel
theorem dX8_image_13 : decode cX8_image 13 = .ok (.aload_n 0, 1) := by decide +kernel
theorem dX8_image_14 : decode cX8_image 14 = .ok (.aload_n 0, 1) := by decide +kernel
theorem dX8_image_15 : decode cX8_image 15 = .ok (.getfield 94, 3) := by decide +kernel
theorem dX8_image_18 : decode cX8_image 18 = .ok (.putfield 328, 3) := by decide +kernel
theorem dX8_image_21 : decode cX8_image 21 = .ok (.aload_n 0, 1) := by decide +kernel
theorem dX8_image_22 : decode cX8_image 22 = .ok (.aload_n 0, 1) := by decide +kernel
theorem dX8_image_23 : decode cX8_image 23 = .ok (.getfield 116, 3) := by decide +kernel
theorem dX8_image_26 : decode cX8_image 26 = .ok (.putfield 331, 3) := by decide +kernel
theorem dX8_image_29 : decode cX8_image 29 = .ok (.iconst 0, 1) := by decide +kernel
theorem dX8_image_30 : decode cX8_image 30 = .ok (.istore_n 1, 1) := by decide +kernel
theorem dX8_image_31 : decode cX8_image 31 = .ok (.iload_n 1, 1) := by decide +kernel
theorem dX8_image_32 : decode cX8_image 32 = .ok (.bipush 36, 2) := by decide +kernel
theorem dX8_image_34 : decode cX8_image 34 = .ok (.if_icmp .ge 21, 3) := by decide +kernel
theorem dX8_image_37 : decode cX8_image 37 = .ok (.aload_n 0, 1) := by decide +kernel
theorem dX8_image_38 : decode cX8_image 38 = .ok (.getfield 35, 3) := by decide +kernel
theorem dX8_image_41 : decode cX8_image 41 = .ok (.iload_n 1, 1) := by decide +kernel
theorem dX8_image_42 : decode cX8_image 42 = .ok (.aload_n 0, 1) := by decide +kernel
theorem dX8_image_43 : decode cX8_image 43 = .ok (.getfield 16, 3) := by decide +kernel
theorem dX8_image_46 : decode cX8_image 46 = .ok (.iload_n 1, 1) := by decide +kernel
theorem dX8_image_47 : decode cX8_image 47 = .ok (.iaload, 1) := by decide +kernel
theorem dX8_image_48 : decode cX8_image 48 = .ok (.iastore, 1) := by decide +kernel
theorem dX8_image_49 : decode cX8_image 49 = .ok (.iinc 1 1, 3) := by decide +kernel
theorem dX8_image_52 : decode cX8_image 52 = .ok (.goto (-21), 3) := by decide +kernel
theorem dX8_image_55 : decode cX8_image 55 = .ok (.iconst 0, 1) := by decide +kernel
theorem dX8_image_56 : decode cX8_image 56 = .ok (.istore_n 1, 1) := by decide +kernel
theorem dX8_image_57 : decode cX8_image 57 = .ok (.iload_n 1, 1) := by decide +kernel
theorem dX8_image_58 : decode cX8_image 58 = .ok (.bipush 6, 2) := by decide +kernel
theorem dX8_image_60 : decode cX8_image 60 = .ok (.if_icmp .ge 21, 3) := by decide +kernel
theorem dX8_image_63 : decode cX8_image 63 = .ok (.aload_n 0, 1) := by decide +kernel
theorem dX8_image_64 : decode cX8_image 64 = .ok (.getfield 38, 3) := by decide +kernel
theorem dX8_image_67 : decode cX8_image 67 = .ok (.iload_n 1, 1) := by decide +kernel
theorem dX8_image_68 : decode cX8_image 68 = .ok (.aload_n 0, 1) := by decide +kernel
theorem dX8_image_69 : decode cX8_image 69 = .ok (.getfield 19, 3) := by decide +kernel
theorem dX8_image_72 : decode cX8_image 72 = .ok (.iload_n 1, 1) := by decide +kernel
theorem dX8_image_73 : decode cX8_image 73 = .ok (.iaload, 1) := by decide +kernel
theorem dX8_image_74 : decode cX8_image 74 = .ok (.iastore, 1) := by decide +kernel
theorem dX8_image_75 : decode cX8_image 75 = .ok (.iinc 1 1, 3) := by decide +kernel
theorem dX8_image_78 : decode cX8_image 78 = .ok (.goto (-21), 3) := by decide +kernel
theorem dX8_image_81 : decode cX8_image 81 = .ok (.aload_n 0, 1) := by decide +kernel
theorem dX8_image_82 : decode cX8_image 82 = .ok (.getfield 41, 3) := by decide +kernel
theorem dX8_image_85 : decode cX8_image 85 = .ok (.iconst 0, 1) := by decide +kernel
theorem dX8_image_86 : decode cX8_image 86 = .ok (.aload_n 0, 1) := by decide +kernel
theorem dX8_image_87 : decode cX8_image 87 = .ok (.getfield 104, 3) := by decide +kernel
theorem dX8_image_90 : decode cX8_image 90 = .ok (.iastore, 1) := by decide +kernel
theorem dX8_image_91 : decode cX8_image 91 = .ok (.aload_n 0, 1) := by decide +kernel
theorem dX8_image_92 : decode cX8_image 92 = .ok (.getfield 41, 3) := by decide +kernel
theorem dX8_image_95 : decode cX8_image 95 = .ok (.iconst 1, 1) := by decide +kernel
theorem dX8_image_96 : decode cX8_image 96 = .ok (.aload_n 0, 1) := by decide +kernel
theorem dX8_image_97 : decode cX8_image 97 = .ok (.getfield 107, 3) := by decide +kernel
theorem dX8_image_100 : decode cX8_image 100 = .ok (.iastore, 1) := by decide +kernel
theorem dX8_image_101 : decode cX8_image 101 = .ok (.aload_n 0, 1) := by decide +kernel
theorem dX8_image_102 : decode cX8_image 102 = .ok (.getfield 41, 3) := by decide +kernel
theorem dX8_image_105 : decode cX8_image 105 = .ok (.iconst 2, 1) := by decide +kernel
theorem dX8_image_106 : decode cX8_image 106 = .ok (.aload_n 0, 1) := by decide +kernel
theorem dX8_image_107 : decode cX8_image 107 = .ok (.getfield 22, 3) := by decide +kernel
theorem dX8_image_110 : decode cX8_image 110 = .ok (.iastore, 1) := by decide +kernel
theorem dX8_image_111 : decode cX8_image 111 = .ok (.aload_n 0, 1) := by decide +kernel
theorem dX8_image_112 : decode cX8_image 112 = .ok (.getfield 41, 3) := by decide +kernel
theorem dX8_image_115 : decode cX8_image 115 = .ok (.iconst 3, 1) := by decide +kernel
theorem dX8_image_116 : decode cX8_image 116 = .ok (.aload_n 0, 1) := by decide +kernel
theorem dX8_image_117 : decode cX8_image 117 = .ok (.getfield 110, 3) := by decide +kernel
theorem dX8_image_120 : decode cX8_image 120 = .ok (.iastore, 1) := by decide +kernel
theorem dX8_image_121 : decode cX8_image 121 = .ok (.aload_n 0, 1) := by decide +kernel
theorem dX8_image_122 : decode cX8_image 122 = .ok (.getfield 41, 3) := by decide +kernel
theorem dX8_image_125 : decode cX8_image 125 = .ok (.iconst 4, 1) := by decide +kernel
theorem dX8_image_126 : decode cX8_image 126 = .ok (.aload_n 0, 1) := by decide +kernel
theorem dX8_image_127 : decode cX8_image 127 = .ok (.getfield 215, 3) := by decide +kernel
theorem dX8_image_130 : decode cX8_image 130 = .ok (.iastore, 1) := by decide +kernel
theorem dX8_image_131 : decode cX8_image 131 = .ok (.aload_n 0, 1) := by decide +kernel
theorem dX8_image_132 : decode cX8_image 132 = .ok (.getfield 87, 3) := by decide +kernel
theorem dX8_image_135 : decode cX8_image 135 = .ok (.ireturn, 1) := by decide +kernel
theorem dX8_back_0 : decode cX8_back 0 = .ok (.aload_n 0, 1) := by decide +kernel
theorem dX8_back_1 : decode cX8_back 1 = .ok (.getfield 321, 3) := by decide +kernel
theorem dX8_back_4 : decode cX8_back 4 = .ok (.ifCond .ne 6, 3) := by decide +kernel
theorem dX8_back_7 : decode cX8_back 7 = .ok (.bipush (-3), 2) := by decide +kernel
theorem dX8_back_9 : decode cX8_back 9 = .ok (.ireturn, 1) := by decide +kernel
theorem dX8_back_10 : decode cX8_back 10 = .ok (.aload_n 0, 1) := by decide +kernel
theorem dX8_back_11 : decode cX8_back 11 = .ok (.aload_n 0, 1) := by decide +kernel
theorem dX8_back_12 : decode cX8_back 12 = .ok (.getfield 325, 3) := by decide +kernel
theorem dX8_back_15 : decode cX8_back 15 = .ok (.putfield 87, 3) := by decide +kernel
theorem dX8_back_18 : decode cX8_back 18 = .ok (.aload_n 0, 1) := by decide +kernel
theorem dX8_back_19 : decode cX8_back 19 = .ok (.aload_n 0, 1) := by decide +kernel
theorem dX8_back_20 : decode cX8_back 20 = .ok (.getfield 328, 3) := by decide +kernel
theorem dX8_back_23 : decode cX8_back 23 = .ok (.putfield 94, 3) := by decide +kernel
theorem dX8_back_26 : decode cX8_back 26 = .ok (.aload_n 0, 1) := by decide +kernel
theorem dX8_back_27 : decode cX8_back 27 = .ok (.aload_n 0, 1) := by decide +kernel
theorem dX8_back_28 : decode cX8_back 28 = .ok (.getfield 331, 3) := by decide +kernel
theorem dX8_back_31 : decode cX8_back 31 = .ok (.putfield 116, 3) := by decide +kernel
theorem dX8_back_34 : decode cX8_back 34 = .ok (.iconst 0, 1) := by decide +kernel
theorem dX8_back_35 : decode cX8_back 35 = .ok (.istore_n 1, 1) := by decide +kernel
theorem dX8_back_36 : decode cX8_back 36 = .ok (.iload_n 1, 1) := by decide +kernel
theorem dX8_back_37 : decode cX8_back 37 = .ok (.bipush 36, 2) := by decide +kernel
theorem dX8_back_39 : decode cX8_back 39 = .ok (.if_icmp .ge 21, 3) := by decide +kernel
theorem dX8_back_42 : decode cX8_back 42 = .ok (.aload_n 0, 1) := by decide +kernel
theorem dX8_back_43 : decode cX8_back 43 = .ok (.getfield 16, 3) := by decide +kernel
theorem dX8_back_46 : decode cX8_back 46 = .ok (.iload_n 1, 1) := by decide +kernel
theorem dX8_back_47 : decode cX8_back 47 = .ok (.aload_n 0, 1) := by decide +kernel
theorem dX8_back_48 : decode cX8_back 48 = .ok (.getfield 35, 3) := by decide +kernel
theorem dX8_back_51 : decode cX8_back 51 = .ok (.iload_n 1, 1) := by decide +kernel
theorem dX8_back_52 : decode cX8_back 52 = .ok (.iaload, 1) := by decide +kernel
theorem dX8_back_53 : decode cX8_back 53 = .ok (.iastore, 1) := by decide +kernel
theorem dX8_back_54 : decode cX8_back 54 = .ok (.iinc 1 1, 3) := by decide +kernel
theorem dX8_back_57 : decode cX8_back 57 = .ok (.goto (-21), 3) := by decide +kernel
theorem dX8_back_60 : decode cX8_back 60 = .ok (.iconst 0, 1) := by decide +kernel
theorem dX8_back_61 : decode cX8_back 61 = .ok (.istore_n 1, 1) := by decide +kernel
theorem dX8_back_62 : decode cX8_back 62 = .ok (.iload_n 1, 1) := by decide +kernel
theorem dX8_back_63 : decode cX8_back 63 = .ok (.bipush 6, 2) := by decide +kernel
theorem dX8_back_65 : decode cX8_back 65 = .ok (.if_icmp .ge 21, 3) := by decide +kernel
theorem dX8_back_68 : decode cX8_back 68 = .ok (.aload_n 0, 1) := by decide +kernel
theorem dX8_back_69 : decode cX8_back 69 = .ok (.getfield 19, 3) := by decide +kernel
theorem dX8_back_72 : decode cX8_back 72 = .ok (.iload_n 1, 1) := by decide +kernel
theorem dX8_back_73 : decode cX8_back 73 = .ok (.aload_n 0, 1) := by decide +kernel
theorem dX8_back_74 : decode cX8_back 74 = .ok (.getfield 38, 3) := by decide +kernel
theorem dX8_back_77 : decode cX8_back 77 = .ok (.iload_n 1, 1) := by decide +kernel
theorem dX8_back_78 : decode cX8_back 78 = .ok (.iaload, 1) := by decide +kernel
theorem dX8_back_79 : decode cX8_back 79 = .ok (.iastore, 1) := by decide +kernel
theorem dX8_back_80 : decode cX8_back 80 = .ok (.iinc 1 1, 3) := by decide +kernel
theorem dX8_back_83 : decode cX8_back 83 = .ok (.goto (-21), 3) := by decide +kernel
theorem dX8_back_86 : decode cX8_back 86 = .ok (.aload_n 0, 1) := by decide +kernel
theorem dX8_back_87 : decode cX8_back 87 = .ok (.aload_n 0, 1) := by decide +kernel
theorem dX8_back_88 : decode cX8_back 88 = .ok (.getfield 41, 3) := by decide +kernel
theorem dX8_back_91 : decode cX8_back 91 = .ok (.iconst 0, 1) := by decide +kernel
theorem dX8_back_92 : decode cX8_back 92 = .ok (.iaload, 1) := by decide +kernel
theorem dX8_back_93 : decode cX8_back 93 = .ok (.putfield 104, 3) := by decide +kernel
theorem dX8_back_96 : decode cX8_back 96 = .ok (.aload_n 0, 1) := by decide +kernel
theorem dX8_back_97 : decode cX8_back 97 = .ok (.aload_n 0, 1) := by decide +kernel
theorem dX8_back_98 : decode cX8_back 98 = .ok (.getfield 41, 3) := by decide +kernel
theorem dX8_back_101 : decode cX8_back 101 = .ok (.iconst 1, 1) := by decide +kernel
theorem dX8_back_102 : decode cX8_back 102 = .ok (.iaload, 1) := by decide +kernel
theorem dX8_back_103 : decode cX8_back 103 = .ok (.putfield 107, 3) := by decide +kernel
theorem dX8_back_106 : decode cX8_back 106 = .ok (.aload_n 0, 1) := by decide +kernel
theorem dX8_back_107 : decode cX8_back 107 = .ok (.aload_n 0, 1) := by decide +kernel
theorem dX8_back_108 : decode cX8_back 108 = .ok (.getfield 41, 3) := by decide +kernel
theorem dX8_back_111 : decode cX8_back 111 = .ok (.iconst 2, 1) := by decide +kernel
theorem dX8_back_112 : decode cX8_back 112 = .ok (.iaload, 1) := by decide +kernel
theorem dX8_back_113 : decode cX8_back 113 = .ok (.putfield 22, 3) := by decide +kernel
theorem dX8_back_116 : decode cX8_back 116 = .ok (.aload_n 0, 1) := by decide +kernel
theorem dX8_back_117 : decode cX8_back 117 = .ok (.aload_n 0, 1) := by decide +kernel
theorem dX8_back_118 : decode cX8_back 118 = .ok (.getfield 41, 3) := by decide +kernel
theorem dX8_back_121 : decode cX8_back 121 = .ok (.iconst 3, 1) := by decide +kernel
theorem dX8_back_122 : decode cX8_back 122 = .ok (.iaload, 1) := by decide +kernel
theorem dX8_back_123 : decode cX8_back 123 = .ok (.putfield 110, 3) := by decide +kernel
theorem dX8_back_126 : decode cX8_back 126 = .ok (.aload_n 0, 1) := by decide +kernel
theorem dX8_back_127 : decode cX8_back 127 = .ok (.aload_n 0, 1) := by decide +kernel
theorem dX8_back_128 : decode cX8_back 128 = .ok (.getfield 41, 3) := by decide +kernel
theorem dX8_back_131 : decode cX8_back 131 = .ok (.iconst 4, 1) := by decide +kernel
theorem dX8_back_132 : decode cX8_back 132 = .ok (.iaload, 1) := by decide +kernel
theorem dX8_back_133 : decode cX8_back 133 = .ok (.putfield 215, 3) := by decide +kernel
theorem dX8_back_136 : decode cX8_back 136 = .ok (.aload_n 0, 1) := by decide +kernel
theorem dX8_back_137 : decode cX8_back 137 = .ok (.getfield 87, 3) := by decide +kernel
theorem dX8_back_140 : decode cX8_back 140 = .ok (.ireturn, 1) := by decide +kernel
theorem dX8_sheet_0 : decode cX8_sheet 0 = .ok (.iload_n 1, 1) := by decide +kernel
theorem dX8_sheet_1 : decode cX8_sheet 1 = .ok (.iconst 0, 1) := by decide +kernel
theorem dX8_sheet_2 : decode cX8_sheet 2 = .ok (.iconst 3, 1) := by decide +kernel
theorem dX8_sheet_3 : decode cX8_sheet 3 = .ok (.invokestatic 90, 3) := by decide +kernel
theorem dX8_sheet_6 : decode cX8_sheet 6 = .ok (.ifCond .eq 23, 3) := by decide +kernel
theorem dX8_sheet_9 : decode cX8_sheet 9 = .ok (.iload_n 2, 1) := by decide +kernel
theorem dX8_sheet_10 : decode cX8_sheet 10 = .ok (.iconst (-1), 1) := by decide +kernel
theorem dX8_sheet_11 : decode cX8_sheet 11 = .ok (.iconst 2, 1) := by decide +kernel
theorem dX8_sheet_12 : decode cX8_sheet 12 = .ok (.invokestatic 90, 3) := by decide +kernel
theorem dX8_sheet_15 : decode cX8_sheet 15 = .ok (.ifCond .eq 14, 3) := by decide +kernel
theorem dX8_sheet_18 : decode cX8_sheet 18 = .ok (.iload_n 2, 1) := by decide +kernel
theorem dX8_sheet_19 : decode cX8_sheet 19 = .ok (.iconst (-1), 1) := by decide +kernel
theorem dX8_sheet_20 : decode cX8_sheet 20 = .ok (.if_icmp .eq 12, 3) := by decide +kernel
theorem dX8_sheet_23 : decode cX8_sheet 23 = .ok (.iload_n 3, 1) := by decide +kernel
theorem dX8_sheet_24 : decode cX8_sheet 24 = .ok (.bipush 40, 2) := by decide +kernel
theorem dX8_sheet_26 : decode cX8_sheet 26 = .ok (.if_icmp .le 6, 3) := by decide +kernel
theorem dX8_sheet_29 : decode cX8_sheet 29 = .ok (.bipush (-2), 2) := by decide +kernel
theorem dX8_sheet_31 : decode cX8_sheet 31 = .ok (.ireturn, 1) := by decide +kernel
theorem dX8_sheet_32 : decode cX8_sheet 32 = .ok (.iload_n 2, 1) := by decide +kernel
theorem dX8_sheet_33 : decode cX8_sheet 33 = .ok (.iconst (-1), 1) := by decide +kernel
theorem dX8_sheet_34 : decode cX8_sheet 34 = .ok (.if_icmp .eq 10, 3) := by decide +kernel
theorem dX8_sheet_37 : decode cX8_sheet 37 = .ok (.iload_n 3, 1) := by decide +kernel
theorem dX8_sheet_38 : decode cX8_sheet 38 = .ok (.ifCond .ge 6, 3) := by decide +kernel
theorem dX8_sheet_41 : decode cX8_sheet 41 = .ok (.bipush (-14), 2) := by decide +kernel
theorem dX8_sheet_43 : decode cX8_sheet 43 = .ok (.ireturn, 1) := by decide +kernel
theorem dX8_sheet_44 : decode cX8_sheet 44 = .ok (.aload_n 0, 1) := by decide +kernel
theorem dX8_sheet_45 : decode cX8_sheet 45 = .ok (.getfield 44, 3) := by decide +kernel
theorem dX8_sheet_48 : decode cX8_sheet 48 = .ok (.iload_n 1, 1) := by decide +kernel
theorem dX8_sheet_49 : decode cX8_sheet 49 = .ok (.iload_n 2, 1) := by decide +kernel
theorem dX8_sheet_50 : decode cX8_sheet 50 = .ok (.iastore, 1) := by decide +kernel
theorem dX8_sheet_51 : decode cX8_sheet 51 = .ok (.aload_n 0, 1) := by decide +kernel
theorem dX8_sheet_52 : decode cX8_sheet 52 = .ok (.getfield 47, 3) := by decide +kernel
theorem dX8_sheet_55 : decode cX8_sheet 55 = .ok (.iload_n 1, 1) := by decide +kernel
theorem dX8_sheet_56 : decode cX8_sheet 56 = .ok (.iload_n 2, 1) := by decide +kernel
theorem dX8_sheet_57 : decode cX8_sheet 57 = .ok (.iconst (-1), 1) := by decide +kernel
theorem dX8_sheet_58 : decode cX8_sheet 58 = .ok (.if_icmp .ne 7, 3) := by decide +kernel
theorem dX8_sheet_61 : decode cX8_sheet 61 = .ok (.iconst 0, 1) := by decide +kernel
theorem dX8_sheet_62 : decode cX8_sheet 62 = .ok (.goto 4, 3) := by decide +kernel
theorem dX8_sheet_65 : decode cX8_sheet 65 = .ok (.iload_n 3, 1) := by decide +kernel
theorem dX8_sheet_66 : decode cX8_sheet 66 = .ok (.iastore, 1) := by decide +kernel
theorem dX8_sheet_67 : decode cX8_sheet 67 = .ok (.iconst 0, 1) := by decide +kernel
theorem dX8_sheet_68 : decode cX8_sheet 68 = .ok (.istore 4, 2) := by decide +kernel
theorem dX8_sheet_70 : decode cX8_sheet 70 = .ok (.iload 4, 2) := by decide +kernel
theorem dX8_sheet_72 : decode cX8_sheet 72 = .ok (.bipush 40, 2) := by decide +kernel
theorem dX8_sheet_74 : decode cX8_sheet 74 = .ok (.if_icmp .ge 22, 3) := by decide +kernel
theorem dX8_sheet_77 : decode cX8_sheet 77 = .ok (.aload_n 0, 1) := by decide +kernel
theorem dX8_sheet_78 : decode cX8_sheet 78 = .ok (.getfield 50, 3) := by decide +kernel
theorem dX8_sheet_81 : decode cX8_sheet 81 = .ok (.bipush 40, 2) := by decide +kernel
theorem dX8_sheet_83 : decode cX8_sheet 83 = .ok (.iload_n 1, 1) := by decide +kernel
theorem dX8_sheet_84 : decode cX8_sheet 84 = .ok (.imul, 1) := by decide +kernel
theorem dX8_sheet_85 : decode cX8_sheet 85 = .ok (.iload 4, 2) := by decide +kernel
theorem dX8_sheet_87 : decode cX8_sheet 87 = .ok (.iadd, 1) := by decide +kernel
theorem dX8_sheet_88 : decode cX8_sheet 88 = .ok (.iconst 0, 1) := by decide +kernel
theorem dX8_sheet_89 : decode cX8_sheet 89 = .ok (.iastore, 1) := by decide +kernel
theorem dX8_sheet_90 : decode cX8_sheet 90 = .ok (.iinc 4 1, 3) := by decide +kernel
theorem dX8_sheet_93 : decode cX8_sheet 93 = .ok (.goto (-23), 3) := by decide +kernel
theorem dX8_sheet_96 : decode cX8_sheet 96 = .ok (.iconst 1, 1) := by decide +kernel
theorem dX8_sheet_97 : decode cX8_sheet 97 = .ok (.ireturn, 1) := by decide +kernel
theorem dX8_cell_0 : decode cX8_cell 0 = .ok (.iload_n 1, 1) := by decide +kernel
theorem dX8_cell_1 : decode cX8_cell 1 = .ok (.iconst 0, 1) := by decide +kernel
theorem dX8_cell_2 : decode cX8_cell 2 = .ok (.iconst 3, 1) := by decide +kernel
theorem dX8_cell_3 : decode cX8_cell 3 = .ok (.invokestatic 90, 3) := by decide +kernel
theorem dX8_cell_6 : decode cX8_cell 6 = .ok (.ifCond .ne 6, 3) := by decide +kernel
theorem dX8_cell_9 : decode cX8_cell 9 = .ok (.bipush (-2), 2) := by decide +kernel
theorem dX8_cell_11 : decode cX8_cell 11 = .ok (.ireturn, 1) := by decide +kernel
theorem dX8_cell_12 : decode cX8_cell 12 = .ok (.aload_n 0, 1) := by decide +kernel
theorem dX8_cell_13 : decode cX8_cell 13 = .ok (.getfield 44, 3) := by decide +kernel
theorem dX8_cell_16 : decode cX8_cell 16 = .ok (.iload_n 1, 1) := by decide +kernel
theorem dX8_cell_17 : decode cX8_cell 17 = .ok (.iaload, 1) := by decide +kernel
theorem dX8_cell_18 : decode cX8_cell 18 = .ok (.iconst (-1), 1) := by decide +kernel
theorem dX8_cell_19 : decode cX8_cell 19 = .ok (.if_icmp .ne 6, 3) := by decide +kernel
theorem dX8_cell_22 : decode cX8_cell 22 = .ok (.bipush (-11), 2) := by decide +kernel
theorem dX8_cell_24 : decode cX8_cell 24 = .ok (.ireturn, 1) := by decide +kernel
theorem dX8_cell_25 : decode cX8_cell 25 = .ok (.iload_n 2, 1) := by decide +kernel
theorem dX8_cell_26 : decode cX8_cell 26 = .ok (.iconst 0, 1) := by decide +kernel
theorem dX8_cell_27 : decode cX8_cell 27 = .ok (.aload_n 0, 1) := by decide +kernel
theorem dX8_cell_28 : decode cX8_cell 28 = .ok (.getfield 47, 3) := by decide +kernel
theorem dX8_cell_31 : decode cX8_cell 31 = .ok (.iload_n 1, 1) := by decide +kernel
theorem dX8_cell_32 : decode cX8_cell 32 = .ok (.iaload, 1) := by decide +kernel
theorem dX8_cell_33 : decode cX8_cell 33 = .ok (.iconst 1, 1) := by decide +kernel
theorem dX8_cell_34 : decode cX8_cell 34 = .ok (.isub, 1) := by decide +kernel
theorem dX8_cell_35 : decode cX8_cell 35 = .ok (.invokestatic 90, 3) := by decide +kernel
theorem dX8_cell_38 : decode cX8_cell 38 = .ok (.ifCond .ne 6, 3) := by decide +kernel
theorem dX8_cell_41 : decode cX8_cell 41 = .ok (.bipush (-12), 2) := by decide +kernel
theorem dX8_cell_43 : decode cX8_cell 43 = .ok (.ireturn, 1) := by decide +kernel
theorem dX8_cell_44 : decode cX8_cell 44 = .ok (.aload_n 0, 1) := by decide +kernel
theorem dX8_cell_45 : decode cX8_cell 45 = .ok (.getfield 50, 3) := by decide +kernel
theorem dX8_cell_48 : decode cX8_cell 48 = .ok (.bipush 40, 2) := by decide +kernel
theorem dX8_cell_50 : decode cX8_cell 50 = .ok (.iload_n 1, 1) := by decide +kernel
theorem dX8_cell_51 : decode cX8_cell 51 = .ok (.imul, 1) := by decide +kernel
theorem dX8_cell_52 : decode cX8_cell 52 = .ok (.iload_n 2, 1) := by decide +kernel
theorem dX8_cell_53 : decode cX8_cell 53 = .ok (.iadd, 1) := by decide +kernel
theorem dX8_cell_54 : decode cX8_cell 54 = .ok (.aload_n 0, 1) := by decide +kernel
theorem dX8_cell_55 : decode cX8_cell 55 = .ok (.getfield 44, 3) := by decide +kernel
theorem dX8_cell_58 : decode cX8_cell 58 = .ok (.iload_n 1, 1) := by decide +kernel
theorem dX8_cell_59 : decode cX8_cell 59 = .ok (.iaload, 1) := by decide +kernel
theorem dX8_cell_60 : decode cX8_cell 60 = .ok (.ifCond .ne 8, 3) := by decide +kernel
theorem dX8_cell_63 : decode cX8_cell 63 = .ok (.iload_n 3, 1) := by decide +kernel
theorem dX8_cell_64 : decode cX8_cell 64 = .ok (.i2b, 1) := by decide +kernel
theorem dX8_cell_65 : decode cX8_cell 65 = .ok (.goto 19, 3) := by decide +kernel
theorem dX8_cell_68 : decode cX8_cell 68 = .ok (.aload_n 0, 1) := by decide +kernel
theorem dX8_cell_69 : decode cX8_cell 69 = .ok (.getfield 44, 3) := by decide +kernel
theorem dX8_cell_72 : decode cX8_cell 72 = .ok (.iload_n 1, 1) := by decide +kernel
theorem dX8_cell_73 : decode cX8_cell 73 = .ok (.iaload, 1) := by decide +kernel
theorem dX8_cell_74 : decode cX8_cell 74 = .ok (.iconst 1, 1) := by decide +kernel
theorem dX8_cell_75 : decode cX8_cell 75 = .ok (.if_icmp .ne 8, 3) := by decide +kernel
theorem dX8_cell_78 : decode cX8_cell 78 = .ok (.iload_n 3, 1) := by decide +kernel
theorem dX8_cell_79 : decode cX8_cell 79 = .ok (.i2s, 1) := by decide +kernel
theorem dX8_cell_80 : decode cX8_cell 80 = .ok (.goto 4, 3) := by decide +kernel
theorem dX8_cell_83 : decode cX8_cell 83 = .ok (.iload_n 3, 1) := by decide +kernel
theorem dX8_cell_84 : decode cX8_cell 84 = .ok (.iastore, 1) := by decide +kernel
theorem dX8_cell_85 : decode cX8_cell 85 = .ok (.iconst 1, 1) := by decide +kernel
theorem dX8_cell_86 : decode cX8_cell 86 = .ok (.ireturn, 1) := by decide +kernel
theorem dX8_copy_0 : decode cX8_copy 0 = .ok (.iload_n 1, 1) := by decide +kernel
theorem dX8_copy_1 : decode cX8_copy 1 = .ok (.iconst 0, 1) := by decide +kernel
theorem dX8_copy_2 : decode cX8_copy 2 = .ok (.iconst 3, 1) := by decide +kernel
theorem dX8_copy_3 : decode cX8_copy 3 = .ok (.invokestatic 90, 3) := by decide +kernel
theorem dX8_copy_6 : decode cX8_copy 6 = .ok (.ifCond .eq 12, 3) := by decide +kernel
theorem dX8_copy_9 : decode cX8_copy 9 = .ok (.iload_n 3, 1) := by decide +kernel
theorem dX8_copy_10 : decode cX8_copy 10 = .ok (.iconst 0, 1) := by decide +kernel
theorem dX8_copy_11 : decode cX8_copy 11 = .ok (.iconst 3, 1) := by decide +kernel
theorem dX8_copy_12 : decode cX8_copy 12 = .ok (.invokestatic 90, 3) := by decide +kernel
theorem dX8_copy_15 : decode cX8_copy 15 = .ok (.ifCond .ne 6, 3) := by decide +kernel
theorem dX8_copy_18 : decode cX8_copy 18 = .ok (.bipush (-2), 2) := by decide +kernel
theorem dX8_copy_20 : decode cX8_copy 20 = .ok (.ireturn, 1) := by decide +kernel
theorem dX8_copy_21 : decode cX8_copy 21 = .ok (.aload_n 0, 1) := by decide +kernel
theorem dX8_copy_22 : decode cX8_copy 22 = .ok (.getfield 44, 3) := by decide +kernel
theorem dX8_copy_25 : decode cX8_copy 25 = .ok (.iload_n 1, 1) := by decide +kernel
theorem dX8_copy_26 : decode cX8_copy 26 = .ok (.iaload, 1) := by decide +kernel
theorem dX8_copy_27 : decode cX8_copy 27 = .ok (.iconst (-1), 1) := by decide +kernel
theorem dX8_copy_28 : decode cX8_copy 28 = .ok (.if_icmp .eq 13, 3) := by decide +kernel
theorem dX8_copy_31 : decode cX8_copy 31 = .ok (.aload_n 0, 1) := by decide +kernel
theorem dX8_copy_32 : decode cX8_copy 32 = .ok (.getfield 44, 3) := by decide +kernel
theorem dX8_copy_35 : decode cX8_copy 35 = .ok (.iload_n 3, 1) := by decide +kernel
theorem dX8_copy_36 : decode cX8_copy 36 = .ok (.iaload, 1) := by decide +kernel
theorem dX8_copy_37 : decode cX8_copy 37 = .ok (.iconst (-1), 1) := by decide +kernel
theorem dX8_copy_38 : decode cX8_copy 38 = .ok (.if_icmp .ne 6, 3) := by decide +kernel
theorem dX8_copy_41 : decode cX8_copy 41 = .ok (.bipush (-11), 2) := by decide +kernel
theorem dX8_copy_43 : decode cX8_copy 43 = .ok (.ireturn, 1) := by decide +kernel
theorem dX8_copy_44 : decode cX8_copy 44 = .ok (.aload_n 0, 1) := by decide +kernel
theorem dX8_copy_45 : decode cX8_copy 45 = .ok (.getfield 44, 3) := by decide +kernel
theorem dX8_copy_48 : decode cX8_copy 48 = .ok (.iload_n 1, 1) := by decide +kernel
theorem dX8_copy_49 : decode cX8_copy 49 = .ok (.iaload, 1) := by decide +kernel
theorem dX8_copy_50 : decode cX8_copy 50 = .ok (.aload_n 0, 1) := by decide +kernel
theorem dX8_copy_51 : decode cX8_copy 51 = .ok (.getfield 44, 3) := by decide +kernel
theorem dX8_copy_54 : decode cX8_copy 54 = .ok (.iload_n 3, 1) := by decide +kernel
theorem dX8_copy_55 : decode cX8_copy 55 = .ok (.iaload, 1) := by decide +kernel
theorem dX8_copy_56 : decode cX8_copy 56 = .ok (.if_icmp .eq 6, 3) := by decide +kernel
theorem dX8_copy_59 : decode cX8_copy 59 = .ok (.bipush (-13), 2) := by decide +kernel
theorem dX8_copy_61 : decode cX8_copy 61 = .ok (.ireturn, 1) := by decide +kernel
theorem dX8_copy_62 : decode cX8_copy 62 = .ok (.iload 5, 2) := by decide +kernel
theorem dX8_copy_64 : decode cX8_copy 64 = .ok (.ifCond .lt 60, 3) := by decide +kernel
theorem dX8_copy_67 : decode cX8_copy 67 = .ok (.iload_n 2, 1) := by decide +kernel
theorem dX8_copy_68 : decode cX8_copy 68 = .ok (.ifCond .lt 56, 3) := by decide +kernel
theorem dX8_copy_71 : decode cX8_copy 71 = .ok (.iload 4, 2) := by decide +kernel
theorem dX8_copy_73 : decode cX8_copy 73 = .ok (.ifCond .lt 51, 3) := by decide +kernel
theorem dX8_copy_76 : decode cX8_copy 76 = .ok (.iload_n 2, 1) := by decide +kernel
theorem dX8_copy_77 : decode cX8_copy 77 = .ok (.aload_n 0, 1) := by decide +kernel
theorem dX8_copy_78 : decode cX8_copy 78 = .ok (.getfield 47, 3) := by decide +kernel
theorem dX8_copy_81 : decode cX8_copy 81 = .ok (.iload_n 1, 1) := by decide +kernel
theorem dX8_copy_82 : decode cX8_copy 82 = .ok (.iaload, 1) := by decide +kernel
theorem dX8_copy_83 : decode cX8_copy 83 = .ok (.if_icmp .gt 41, 3) := by decide +kernel
theorem dX8_copy_86 : decode cX8_copy 86 = .ok (.iload 4, 2) := by decide +kernel
theorem dX8_copy_88 : decode cX8_copy 88 = .ok (.aload_n 0, 1) := by decide +kernel
theorem dX8_copy_89 : decode cX8_copy 89 = .ok (.getfield 47, 3) := by decide +kernel
theorem dX8_copy_92 : decode cX8_copy 92 = .ok (.iload_n 3, 1) := by decide +kernel
theorem dX8_copy_93 : decode cX8_copy 93 = .ok (.iaload, 1) := by decide +kernel
theorem dX8_copy_94 : decode cX8_copy 94 = .ok (.if_icmp .gt 30, 3) := by decide +kernel
theorem dX8_copy_97 : decode cX8_copy 97 = .ok (.iload 5, 2) := by decide +kernel
theorem dX8_copy_99 : decode cX8_copy 99 = .ok (.aload_n 0, 1) := by decide +kernel
theorem dX8_copy_100 : decode cX8_copy 100 = .ok (.getfield 47, 3) := by decide +kernel
theorem dX8_copy_103 : decode cX8_copy 103 = .ok (.iload_n 1, 1) := by decide +kernel
theorem dX8_copy_104 : decode cX8_copy 104 = .ok (.iaload, 1) := by decide +kernel
theorem dX8_copy_105 : decode cX8_copy 105 = .ok (.iload_n 2, 1) := by decide +kernel
theorem dX8_copy_106 : decode cX8_copy 106 = .ok (.isub, 1) := by decide +kernel
theorem dX8_copy_107 : decode cX8_copy 107 = .ok (.if_icmp .gt 17, 3) := by decide +kernel
theorem dX8_copy_110 : decode cX8_copy 110 = .ok (.iload 5, 2) := by decide +kernel
theorem dX8_copy_112 : decode cX8_copy 112 = .ok (.aload_n 0, 1) := by decide +kernel
theorem dX8_copy_113 : decode cX8_copy 113 = .ok (.getfield 47, 3) := by decide +kernel
theorem dX8_copy_116 : decode cX8_copy 116 = .ok (.iload_n 3, 1) := by decide +kernel
theorem dX8_copy_117 : decode cX8_copy 117 = .ok (.iaload, 1) := by decide +kernel
theorem dX8_copy_118 : decode cX8_copy 118 = .ok (.iload 4, 2) := by decide +kernel
theorem dX8_copy_120 : decode cX8_copy 120 = .ok (.isub, 1) := by decide +kernel
theorem dX8_copy_121 : decode cX8_copy 121 = .ok (.if_icmp .le 6, 3) := by decide +kernel
theorem dX8_copy_124 : decode cX8_copy 124 = .ok (.bipush (-12), 2) := by decide +kernel
theorem dX8_copy_126 : decode cX8_copy 126 = .ok (.ireturn, 1) := by decide +kernel
theorem dX8_copy_127 : decode cX8_copy 127 = .ok (.bipush 40, 2) := by decide +kernel
theorem dX8_copy_129 : decode cX8_copy 129 = .ok (.iload_n 1, 1) := by decide +kernel
theorem dX8_copy_130 : decode cX8_copy 130 = .ok (.imul, 1) := by decide +kernel
theorem dX8_copy_131 : decode cX8_copy 131 = .ok (.iload_n 2, 1) := by decide +kernel
theorem dX8_copy_132 : decode cX8_copy 132 = .ok (.iadd, 1) := by decide +kernel
theorem dX8_copy_133 : decode cX8_copy 133 = .ok (.istore 6, 2) := by decide +kernel
theorem dX8_copy_135 : decode cX8_copy 135 = .ok (.bipush 40, 2) := by decide +kernel
theorem dX8_copy_137 : decode cX8_copy 137 = .ok (.iload_n 3, 1) := by decide +kernel
theorem dX8_copy_138 : decode cX8_copy 138 = .ok (.imul, 1) := by decide +kernel
theorem dX8_copy_139 : decode cX8_copy 139 = .ok (.iload 4, 2) := by decide +kernel
theorem dX8_copy_141 : decode cX8_copy 141 = .ok (.iadd, 1) := by decide +kernel
theorem dX8_copy_142 : decode cX8_copy 142 = .ok (.istore 7, 2) := by decide +kernel
theorem dX8_copy_144 : decode cX8_copy 144 = .ok (.iconst 0, 1) := by decide +kernel
theorem dX8_copy_145 : decode cX8_copy 145 = .ok (.istore 8, 2) := by decide +kernel
theorem dX8_copy_147 : decode cX8_copy 147 = .ok (.iload 8, 2) := by decide +kernel
theorem dX8_copy_149 : decode cX8_copy 149 = .ok (.iload 5, 2) := by decide +kernel
theorem dX8_copy_151 : decode cX8_copy 151 = .ok (.if_icmp .ge 50, 3) := by decide +kernel
theorem dX8_copy_154 : decode cX8_copy 154 = .ok (.iload 6, 2) := by decide +kernel
theorem dX8_copy_156 : decode cX8_copy 156 = .ok (.iload 7, 2) := by decide +kernel
theorem dX8_copy_158 : decode cX8_copy 158 = .ok (.if_icmp .ge 13, 3) := by decide +kernel
theorem dX8_copy_161 : decode cX8_copy 161 = .ok (.iload 5, 2) := by decide +kernel
theorem dX8_copy_163 : decode cX8_copy 163 = .ok (.iconst 1, 1) := by decide +kernel
theorem dX8_copy_164 : decode cX8_copy 164 = .ok (.isub, 1) := by decide +kernel
theorem dX8_copy_165 : decode cX8_copy 165 = .ok (.iload 8, 2) := by decide +kernel
theorem dX8_copy_167 : decode cX8_copy 167 = .ok (.isub, 1) := by decide +kernel
theorem dX8_copy_168 : decode cX8_copy 168 = .ok (.goto 5, 3) := by decide +kernel
theorem dX8_copy_171 : decode cX8_copy 171 = .ok (.iload 8, 2) := by decide +kernel
theorem dX8_copy_173 : decode cX8_copy 173 = .ok (.istore 9, 2) := by decide +kernel
theorem dX8_copy_175 : decode cX8_copy 175 = .ok (.aload_n 0, 1) := by decide +kernel
theorem dX8_copy_176 : decode cX8_copy 176 = .ok (.getfield 50, 3) := by decide +kernel
theorem dX8_copy_179 : decode cX8_copy 179 = .ok (.iload 7, 2) := by decide +kernel
theorem dX8_copy_181 : decode cX8_copy 181 = .ok (.iload 9, 2) := by decide +kernel
theorem dX8_copy_183 : decode cX8_copy 183 = .ok (.iadd, 1) := by decide +kernel
theorem dX8_copy_184 : decode cX8_copy 184 = .ok (.aload_n 0, 1) := by decide +kernel
theorem dX8_copy_185 : decode cX8_copy 185 = .ok (.getfield 50, 3) := by decide +kernel
theorem dX8_copy_188 : decode cX8_copy 188 = .ok (.iload 6, 2) := by decide +kernel
theorem dX8_copy_190 : decode cX8_copy 190 = .ok (.iload 9, 2) := by decide +kernel
theorem dX8_copy_192 : decode cX8_copy 192 = .ok (.iadd, 1) := by decide +kernel
theorem dX8_copy_193 : decode cX8_copy 193 = .ok (.iaload, 1) := by decide +kernel
theorem dX8_copy_194 : decode cX8_copy 194 = .ok (.iastore, 1) := by decide +kernel
theorem dX8_copy_195 : decode cX8_copy 195 = .ok (.iinc 8 1, 3) := by decide +kernel
theorem dX8_copy_198 : decode cX8_copy 198 = .ok (.goto (-51), 3) := by decide +kernel
theorem dX8_copy_201 : decode cX8_copy 201 = .ok (.iload 5, 2) := by decide +kernel
theorem dX8_copy_203 : decode cX8_copy 203 = .ok (.ireturn, 1) := by decide +kernel
theorem dX8_wordsBy_0 : decode cX8_wordsBy 0 = .ok (.iload_n 1, 1) := by decide +kernel
theorem dX8_wordsBy_1 : decode cX8_wordsBy 1 = .ok (.iconst 0, 1) := by decide +kernel
theorem dX8_wordsBy_2 : decode cX8_wordsBy 2 = .ok (.iconst 3, 1) := by decide +kernel
theorem dX8_wordsBy_3 : decode cX8_wordsBy 3 = .ok (.invokestatic 90, 3) := by decide +kernel
theorem dX8_wordsBy_6 : decode cX8_wordsBy 6 = .ok (.ifCond .eq 23, 3) := by decide +kernel
theorem dX8_wordsBy_9 : decode cX8_wordsBy 9 = .ok (.iload_n 2, 1) := by decide +kernel
theorem dX8_wordsBy_10 : decode cX8_wordsBy 10 = .ok (.iconst 0, 1) := by decide +kernel
theorem dX8_wordsBy_11 : decode cX8_wordsBy 11 = .ok (.iconst 2, 1) := by decide +kernel
theorem dX8_wordsBy_12 : decode cX8_wordsBy 12 = .ok (.invokestatic 90, 3) := by decide +kernel
theorem dX8_wordsBy_15 : decode cX8_wordsBy 15 = .ok (.ifCond .eq 14, 3) := by decide +kernel
theorem dX8_wordsBy_18 : decode cX8_wordsBy 18 = .ok (.iload 4, 2) := by decide +kernel
theorem dX8_wordsBy_20 : decode cX8_wordsBy 20 = .ok (.iconst 0, 1) := by decide +kernel
theorem dX8_wordsBy_21 : decode cX8_wordsBy 21 = .ok (.bipush 12, 2) := by decide +kernel
theorem dX8_wordsBy_23 : decode cX8_wordsBy 23 = .ok (.invokestatic 90, 3) := by decide +kernel
theorem dX8_wordsBy_26 : decode cX8_wordsBy 26 = .ok (.ifCond .ne 6, 3) := by decide +kernel
theorem dX8_wordsBy_29 : decode cX8_wordsBy 29 = .ok (.bipush (-2), 2) := by decide +kernel
theorem dX8_wordsBy_31 : decode cX8_wordsBy 31 = .ok (.ireturn, 1) := by decide +kernel
theorem dX8_wordsBy_32 : decode cX8_wordsBy 32 = .ok (.aload_n 0, 1) := by decide +kernel
theorem dX8_wordsBy_33 : decode cX8_wordsBy 33 = .ok (.getfield 44, 3) := by decide +kernel
theorem dX8_wordsBy_36 : decode cX8_wordsBy 36 = .ok (.iload_n 1, 1) := by decide +kernel
theorem dX8_wordsBy_37 : decode cX8_wordsBy 37 = .ok (.iaload, 1) := by decide +kernel
theorem dX8_wordsBy_38 : decode cX8_wordsBy 38 = .ok (.iconst (-1), 1) := by decide +kernel
theorem dX8_wordsBy_39 : decode cX8_wordsBy 39 = .ok (.if_icmp .ne 6, 3) := by decide +kernel
theorem dX8_wordsBy_42 : decode cX8_wordsBy 42 = .ok (.bipush (-11), 2) := by decide +kernel
theorem dX8_wordsBy_44 : decode cX8_wordsBy 44 = .ok (.ireturn, 1) := by decide +kernel
theorem dX8_wordsBy_45 : decode cX8_wordsBy 45 = .ok (.aload_n 0, 1) := by decide +kernel
theorem dX8_wordsBy_46 : decode cX8_wordsBy 46 = .ok (.getfield 44, 3) := by decide +kernel
theorem dX8_wordsBy_49 : decode cX8_wordsBy 49 = .ok (.iload_n 1, 1) := by decide +kernel
theorem dX8_wordsBy_50 : decode cX8_wordsBy 50 = .ok (.iaload, 1) := by decide +kernel
theorem dX8_wordsBy_51 : decode cX8_wordsBy 51 = .ok (.iload_n 2, 1) := by decide +kernel
theorem dX8_wordsBy_52 : decode cX8_wordsBy 52 = .ok (.if_icmp .eq 6, 3) := by decide +kernel
theorem dX8_wordsBy_55 : decode cX8_wordsBy 55 = .ok (.bipush (-13), 2) := by decide +kernel
theorem dX8_wordsBy_57 : decode cX8_wordsBy 57 = .ok (.ireturn, 1) := by decide +kernel
theorem dX8_wordsBy_58 : decode cX8_wordsBy 58 = .ok (.iconst 0, 1) := by decide +kernel
theorem dX8_wordsBy_59 : decode cX8_wordsBy 59 = .ok (.istore 5, 2) := by decide +kernel
theorem dX8_wordsBy_61 : decode cX8_wordsBy 61 = .ok (.iconst 0, 1) := by decide +kernel
theorem dX8_wordsBy_62 : decode cX8_wordsBy 62 = .ok (.istore 6, 2) := by decide +kernel
theorem dX8_wordsBy_64 : decode cX8_wordsBy 64 = .ok (.iload 6, 2) := by decide +kernel
theorem dX8_wordsBy_66 : decode cX8_wordsBy 66 = .ok (.iload 4, 2) := by decide +kernel
theorem dX8_wordsBy_68 : decode cX8_wordsBy 68 = .ok (.if_icmp .ge 94, 3) := by decide +kernel
theorem dX8_wordsBy_71 : decode cX8_wordsBy 71 = .ok (.iload_n 3, 1) := by decide +kernel
theorem dX8_wordsBy_72 : decode cX8_wordsBy 72 = .ok (.iconst 3, 1) := by decide +kernel
theorem dX8_wordsBy_73 : decode cX8_wordsBy 73 = .ok (.iload 6, 2) := by decide +kernel
theorem dX8_wordsBy_75 : decode cX8_wordsBy 75 = .ok (.imul, 1) := by decide +kernel
theorem dX8_wordsBy_76 : decode cX8_wordsBy 76 = .ok (.iadd, 1) := by decide +kernel
theorem dX8_wordsBy_77 : decode cX8_wordsBy 77 = .ok (.istore 7, 2) := by decide +kernel
theorem dX8_wordsBy_79 : decode cX8_wordsBy 79 = .ok (.iload_n 3, 1) := by decide +kernel
theorem dX8_wordsBy_80 : decode cX8_wordsBy 80 = .ok (.ifCond .lt 22, 3) := by decide +kernel
theorem dX8_wordsBy_83 : decode cX8_wordsBy 83 = .ok (.iload 7, 2) := by decide +kernel
theorem dX8_wordsBy_85 : decode cX8_wordsBy 85 = .ok (.iload_n 3, 1) := by decide +kernel
theorem dX8_wordsBy_86 : decode cX8_wordsBy 86 = .ok (.if_icmp .lt 16, 3) := by decide +kernel
theorem dX8_wordsBy_89 : decode cX8_wordsBy 89 = .ok (.iload 7, 2) := by decide +kernel
theorem dX8_wordsBy_91 : decode cX8_wordsBy 91 = .ok (.aload_n 0, 1) := by decide +kernel
theorem dX8_wordsBy_92 : decode cX8_wordsBy 92 = .ok (.getfield 47, 3) := by decide +kernel
theorem dX8_wordsBy_95 : decode cX8_wordsBy 95 = .ok (.iload_n 1, 1) := by decide +kernel
theorem dX8_wordsBy_96 : decode cX8_wordsBy 96 = .ok (.iaload, 1) := by decide +kernel
theorem dX8_wordsBy_97 : decode cX8_wordsBy 97 = .ok (.iconst 3, 1) := by decide +kernel
theorem dX8_wordsBy_98 : decode cX8_wordsBy 98 = .ok (.isub, 1) := by decide +kernel
theorem dX8_wordsBy_99 : decode cX8_wordsBy 99 = .ok (.if_icmp .le 6, 3) := by decide +kernel
theorem dX8_wordsBy_102 : decode cX8_wordsBy 102 = .ok (.bipush (-12), 2) := by decide +kernel
theorem dX8_wordsBy_104 : decode cX8_wordsBy 104 = .ok (.ireturn, 1) := by decide +kernel
theorem dX8_wordsBy_105 : decode cX8_wordsBy 105 = .ok (.bipush 40, 2) := by decide +kernel
theorem dX8_wordsBy_107 : decode cX8_wordsBy 107 = .ok (.iload_n 1, 1) := by decide +kernel
theorem dX8_wordsBy_108 : decode cX8_wordsBy 108 = .ok (.imul, 1) := by decide +kernel
theorem dX8_wordsBy_109 : decode cX8_wordsBy 109 = .ok (.iload 7, 2) := by decide +kernel
theorem dX8_wordsBy_111 : decode cX8_wordsBy 111 = .ok (.iadd, 1) := by decide +kernel
theorem dX8_wordsBy_112 : decode cX8_wordsBy 112 = .ok (.istore 8, 2) := by decide +kernel
theorem dX8_wordsBy_114 : decode cX8_wordsBy 114 = .ok (.iload 5, 2) := by decide +kernel
theorem dX8_wordsBy_116 : decode cX8_wordsBy 116 = .ok (.aload_n 0, 1) := by decide +kernel
theorem dX8_wordsBy_117 : decode cX8_wordsBy 117 = .ok (.aload_n 0, 1) := by decide +kernel
theorem dX8_wordsBy_118 : decode cX8_wordsBy 118 = .ok (.getfield 50, 3) := by decide +kernel
theorem dX8_wordsBy_121 : decode cX8_wordsBy 121 = .ok (.iload 8, 2) := by decide +kernel
theorem dX8_wordsBy_123 : decode cX8_wordsBy 123 = .ok (.iaload, 1) := by decide +kernel
theorem dX8_wordsBy_124 : decode cX8_wordsBy 124 = .ok (.aload_n 0, 1) := by decide +kernel
theorem dX8_wordsBy_125 : decode cX8_wordsBy 125 = .ok (.getfield 50, 3) := by decide +kernel
theorem dX8_wordsBy_128 : decode cX8_wordsBy 128 = .ok (.iload 8, 2) := by decide +kernel
theorem dX8_wordsBy_130 : decode cX8_wordsBy 130 = .ok (.iconst 1, 1) := by decide +kernel
theorem dX8_wordsBy_131 : decode cX8_wordsBy 131 = .ok (.iadd, 1) := by decide +kernel
theorem dX8_wordsBy_132 : decode cX8_wordsBy 132 = .ok (.iaload, 1) := by decide +kernel
theorem dX8_wordsBy_133 : decode cX8_wordsBy 133 = .ok (.aload_n 0, 1) := by decide +kernel
theorem dX8_wordsBy_134 : decode cX8_wordsBy 134 = .ok (.getfield 50, 3) := by decide +kernel
theorem dX8_wordsBy_137 : decode cX8_wordsBy 137 = .ok (.iload 8, 2) := by decide +kernel
theorem dX8_wordsBy_139 : decode cX8_wordsBy 139 = .ok (.iconst 2, 1) := by decide +kernel
theorem dX8_wordsBy_140 : decode cX8_wordsBy 140 = .ok (.iadd, 1) := by decide +kernel
theorem dX8_wordsBy_141 : decode cX8_wordsBy 141 = .ok (.iaload, 1) := by decide +kernel
theorem dX8_wordsBy_142 : decode cX8_wordsBy 142 = .ok (.invokevirtual 334, 3) := by decide +kernel
theorem dX8_wordsBy_145 : decode cX8_wordsBy 145 = .ok (.ifCond .lt 7, 3) := by decide +kernel
theorem dX8_wordsBy_148 : decode cX8_wordsBy 148 = .ok (.iconst 1, 1) := by decide +kernel
theorem dX8_wordsBy_149 : decode cX8_wordsBy 149 = .ok (.goto 4, 3) := by decide +kernel
theorem dX8_wordsBy_152 : decode cX8_wordsBy 152 = .ok (.iconst 0, 1) := by decide +kernel
theorem dX8_wordsBy_153 : decode cX8_wordsBy 153 = .ok (.iadd, 1) := by decide +kernel
theorem dX8_wordsBy_154 : decode cX8_wordsBy 154 = .ok (.istore 5, 2) := by decide +kernel
theorem dX8_wordsBy_156 : decode cX8_wordsBy 156 = .ok (.iinc 6 1, 3) := by decide +kernel
theorem dX8_wordsBy_159 : decode cX8_wordsBy 159 = .ok (.goto (-95), 3) := by decide +kernel
theorem dX8_wordsBy_162 : decode cX8_wordsBy 162 = .ok (.iload 5, 2) := by decide +kernel
theorem dX8_wordsBy_164 : decode cX8_wordsBy 164 = .ok (.ireturn, 1) := by decide +kernel
theorem dX8_isUnder_0 : decode cX8_isUnder 0 = .ok (.iload_n 1, 1) := by decide +kernel
theorem dX8_isUnder_1 : decode cX8_isUnder 1 = .ok (.ifCond .eq 28, 3) := by decide +kernel
theorem dX8_isUnder_4 : decode cX8_isUnder 4 = .ok (.iload_n 0, 1) := by decide +kernel
theorem dX8_isUnder_5 : decode cX8_isUnder 5 = .ok (.iload_n 1, 1) := by decide +kernel
theorem dX8_isUnder_6 : decode cX8_isUnder 6 = .ok (.if_icmp .eq 23, 3) := by decide +kernel
theorem dX8_isUnder_9 : decode cX8_isUnder 9 = .ok (.iload_n 1, 1) := by decide +kernel
theorem dX8_isUnder_10 : decode cX8_isUnder 10 = .ok (.iconst 1, 1) := by decide +kernel
theorem dX8_isUnder_11 : decode cX8_isUnder 11 = .ok (.if_icmp .ne 8, 3) := by decide +kernel
theorem dX8_isUnder_14 : decode cX8_isUnder 14 = .ok (.iload_n 0, 1) := by decide +kernel
theorem dX8_isUnder_15 : decode cX8_isUnder 15 = .ok (.iconst 3, 1) := by decide +kernel
theorem dX8_isUnder_16 : decode cX8_isUnder 16 = .ok (.if_icmp .eq 13, 3) := by decide +kernel
theorem dX8_isUnder_19 : decode cX8_isUnder 19 = .ok (.iload_n 1, 1) := by decide +kernel
theorem dX8_isUnder_20 : decode cX8_isUnder 20 = .ok (.iconst 2, 1) := by decide +kernel
theorem dX8_isUnder_21 : decode cX8_isUnder 21 = .ok (.if_icmp .ne 12, 3) := by decide +kernel
theorem dX8_isUnder_24 : decode cX8_isUnder 24 = .ok (.iload_n 0, 1) := by decide +kernel
theorem dX8_isUnder_25 : decode cX8_isUnder 25 = .ok (.iconst 4, 1) := by decide +kernel
theorem dX8_isUnder_26 : decode cX8_isUnder 26 = .ok (.if_icmp .ne 7, 3) := by decide +kernel
theorem dX8_isUnder_29 : decode cX8_isUnder 29 = .ok (.iconst 1, 1) := by decide +kernel
theorem dX8_isUnder_30 : decode cX8_isUnder 30 = .ok (.goto 4, 3) := by decide +kernel
theorem dX8_isUnder_33 : decode cX8_isUnder 33 = .ok (.iconst 0, 1) := by decide +kernel
theorem dX8_isUnder_34 : decode cX8_isUnder 34 = .ok (.ireturn, 1) := by decide +kernel
theorem dX8_taken_0 : decode cX8_taken 0 = .ok (.iload_n 2, 1) := by decide +kernel
theorem dX8_taken_1 : decode cX8_taken 1 = .ok (.iconst 0, 1) := by decide +kernel
theorem dX8_taken_2 : decode cX8_taken 2 = .ok (.bipush 6, 2) := by decide +kernel
theorem dX8_taken_4 : decode cX8_taken 4 = .ok (.invokestatic 90, 3) := by decide +kernel
theorem dX8_taken_7 : decode cX8_taken 7 = .ok (.ifCond .ne 7, 3) := by decide +kernel
theorem dX8_taken_10 : decode cX8_taken 10 = .ok (.ldc2_w 337, 3) := by decide +kernel
theorem dX8_taken_13 : decode cX8_taken 13 = .ok (.lreturn, 1) := by decide +kernel
theorem dX8_taken_14 : decode cX8_taken 14 = .ok (.iload_n 1, 1) := by decide +kernel
theorem dX8_taken_15 : decode cX8_taken 15 = .ok (.iconst 0, 1) := by decide +kernel
theorem dX8_taken_16 : decode cX8_taken 16 = .ok (.bipush 17, 2) := by decide +kernel
theorem dX8_taken_18 : decode cX8_taken 18 = .ok (.invokestatic 90, 3) := by decide +kernel
theorem dX8_taken_21 : decode cX8_taken 21 = .ok (.ifCond .ne 7, 3) := by decide +kernel
theorem dX8_taken_24 : decode cX8_taken 24 = .ok (.ldc2_w 339, 3) := by decide +kernel
theorem dX8_taken_27 : decode cX8_taken 27 = .ok (.lreturn, 1) := by decide +kernel
theorem dX8_taken_28 : decode cX8_taken 28 = .ok (.iload_n 1, 1) := by decide +kernel
theorem dX8_taken_29 : decode cX8_taken 29 = .ok (.bipush 12, 2) := by decide +kernel
theorem dX8_taken_31 : decode cX8_taken 31 = .ok (.if_icmp .lt 43, 3) := by decide +kernel
theorem dX8_taken_34 : decode cX8_taken 34 = .ok (.iload_n 1, 1) := by decide +kernel
theorem dX8_taken_35 : decode cX8_taken 35 = .ok (.bipush 12, 2) := by decide +kernel
theorem dX8_taken_37 : decode cX8_taken 37 = .ok (.isub, 1) := by decide +kernel
theorem dX8_taken_38 : decode cX8_taken 38 = .ok (.aload_n 0, 1) := by decide +kernel
theorem dX8_taken_39 : decode cX8_taken 39 = .ok (.getfield 94, 3) := by decide +kernel
theorem dX8_taken_42 : decode cX8_taken 42 = .ok (.if_icmp .lt 9, 3) := by decide +kernel
theorem dX8_taken_45 : decode cX8_taken 45 = .ok (.ldc2_w 341, 3) := by decide +kernel
theorem dX8_taken_48 : decode cX8_taken 48 = .ok (.goto 25, 3) := by decide +kernel
theorem dX8_taken_51 : decode cX8_taken 51 = .ok (.iload_n 2, 1) := by decide +kernel
theorem dX8_taken_52 : decode cX8_taken 52 = .ok (.bipush 6, 2) := by decide +kernel
theorem dX8_taken_54 : decode cX8_taken 54 = .ok (.if_icmp .ne 16, 3) := by decide +kernel
theorem dX8_taken_57 : decode cX8_taken 57 = .ok (.aload_n 0, 1) := by decide +kernel
theorem dX8_taken_58 : decode cX8_taken 58 = .ok (.getfield 19, 3) := by decide +kernel
theorem dX8_taken_61 : decode cX8_taken 61 = .ok (.iload_n 1, 1) := by decide +kernel
theorem dX8_taken_62 : decode cX8_taken 62 = .ok (.bipush 12, 2) := by decide +kernel
theorem dX8_taken_64 : decode cX8_taken 64 = .ok (.isub, 1) := by decide +kernel
theorem dX8_taken_65 : decode cX8_taken 65 = .ok (.iaload, 1) := by decide +kernel
theorem dX8_taken_66 : decode cX8_taken 66 = .ok (.i2l, 1) := by decide +kernel
theorem dX8_taken_67 : decode cX8_taken 67 = .ok (.goto 6, 3) := by decide +kernel
theorem dX8_taken_70 : decode cX8_taken 70 = .ok (.ldc2_w 343, 3) := by decide +kernel
theorem dX8_taken_73 : decode cX8_taken 73 = .ok (.lreturn, 1) := by decide +kernel
theorem dX8_taken_74 : decode cX8_taken 74 = .ok (.iload_n 1, 1) := by decide +kernel
theorem dX8_taken_75 : decode cX8_taken 75 = .ok (.aload_n 0, 1) := by decide +kernel
theorem dX8_taken_76 : decode cX8_taken 76 = .ok (.getfield 87, 3) := by decide +kernel
theorem dX8_taken_79 : decode cX8_taken 79 = .ok (.if_icmp .lt 9, 3) := by decide +kernel
theorem dX8_taken_82 : decode cX8_taken 82 = .ok (.ldc2_w 341, 3) := by decide +kernel
theorem dX8_taken_85 : decode cX8_taken 85 = .ok (.goto 30, 3) := by decide +kernel
theorem dX8_taken_88 : decode cX8_taken 88 = .ok (.iload_n 2, 1) := by decide +kernel
theorem dX8_taken_89 : decode cX8_taken 89 = .ok (.bipush 6, 2) := by decide +kernel
theorem dX8_taken_91 : decode cX8_taken 91 = .ok (.if_icmp .ge 21, 3) := by decide +kernel
theorem dX8_taken_94 : decode cX8_taken 94 = .ok (.aload_n 0, 1) := by decide +kernel
theorem dX8_taken_95 : decode cX8_taken 95 = .ok (.getfield 7, 3) := by decide +kernel
theorem dX8_taken_98 : decode cX8_taken 98 = .ok (.iload_n 1, 1) := by decide +kernel
theorem dX8_taken_99 : decode cX8_taken 99 = .ok (.iaload, 1) := by decide +kernel
theorem dX8_taken_100 : decode cX8_taken 100 = .ok (.iload_n 2, 1) := by decide +kernel
theorem dX8_taken_101 : decode cX8_taken 101 = .ok (.invokestatic 345, 3) := by decide +kernel
theorem dX8_taken_104 : decode cX8_taken 104 = .ok (.ifCond .eq 8, 3) := by decide +kernel
theorem dX8_taken_107 : decode cX8_taken 107 = .ok (.iload_n 1, 1) := by decide +kernel
theorem dX8_taken_108 : decode cX8_taken 108 = .ok (.i2l, 1) := by decide +kernel
theorem dX8_taken_109 : decode cX8_taken 109 = .ok (.goto 6, 3) := by decide +kernel
theorem dX8_taken_112 : decode cX8_taken 112 = .ok (.ldc2_w 343, 3) := by decide +kernel
theorem dX8_taken_115 : decode cX8_taken 115 = .ok (.lreturn, 1) := by decide +kernel
theorem dJ6_bitCount_0f7a4_0 : decode cJ6_bitCount_0f7a4 0 = .ok (.iload_n 0, 1) := by decide +kernel
theorem dJ6_bitCount_0f7a4_1 : decode cJ6_bitCount_0f7a4 1 = .ok (.iload_n 0, 1) := by decide +kernel
theorem dJ6_bitCount_0f7a4_2 : decode cJ6_bitCount_0f7a4 2 = .ok (.iconst 1, 1) := by decide +kernel
theorem dJ6_bitCount_0f7a4_3 : decode cJ6_bitCount_0f7a4 3 = .ok (.iushr, 1) := by decide +kernel
theorem dJ6_bitCount_0f7a4_4 : decode cJ6_bitCount_0f7a4 4 = .ok (.ldc_w 265, 3) := by decide +kernel
theorem dJ6_bitCount_0f7a4_7 : decode cJ6_bitCount_0f7a4 7 = .ok (.iand, 1) := by decide +kernel
theorem dJ6_bitCount_0f7a4_8 : decode cJ6_bitCount_0f7a4 8 = .ok (.isub, 1) := by decide +kernel
theorem dJ6_bitCount_0f7a4_9 : decode cJ6_bitCount_0f7a4 9 = .ok (.istore_n 0, 1) := by decide +kernel
theorem dJ6_bitCount_0f7a4_10 : decode cJ6_bitCount_0f7a4 10 = .ok (.iload_n 0, 1) := by decide +kernel
theorem dJ6_bitCount_0f7a4_11 : decode cJ6_bitCount_0f7a4 11 = .ok (.ldc_w 266, 3) := by decide +kernel
theorem dJ6_bitCount_0f7a4_14 : decode cJ6_bitCount_0f7a4 14 = .ok (.iand, 1) := by decide +kernel
theorem dJ6_bitCount_0f7a4_15 : decode cJ6_bitCount_0f7a4 15 = .ok (.iload_n 0, 1) := by decide +kernel
theorem dJ6_bitCount_0f7a4_16 : decode cJ6_bitCount_0f7a4 16 = .ok (.iconst 2, 1) := by decide +kernel
theorem dJ6_bitCount_0f7a4_17 : decode cJ6_bitCount_0f7a4 17 = .ok (.iushr, 1) := by decide +kernel
theorem dJ6_bitCount_0f7a4_18 : decode cJ6_bitCount_0f7a4 18 = .ok (.ldc_w 266, 3) := by decide +kernel
theorem dJ6_bitCount_0f7a4_21 : decode cJ6_bitCount_0f7a4 21 = .ok (.iand, 1) := by decide +kernel
theorem dJ6_bitCount_0f7a4_22 : decode cJ6_bitCount_0f7a4 22 = .ok (.iadd, 1) := by decide +kernel
theorem dJ6_bitCount_0f7a4_23 : decode cJ6_bitCount_0f7a4 23 = .ok (.istore_n 0, 1) := by decide +kernel
theorem dJ6_bitCount_0f7a4_24 : decode cJ6_bitCount_0f7a4 24 = .ok (.iload_n 0, 1) := by decide +kernel
theorem dJ6_bitCount_0f7a4_25 : decode cJ6_bitCount_0f7a4 25 = .ok (.iload_n 0, 1) := by decide +kernel
theorem dJ6_bitCount_0f7a4_26 : decode cJ6_bitCount_0f7a4 26 = .ok (.iconst 4, 1) := by decide +kernel
theorem dJ6_bitCount_0f7a4_27 : decode cJ6_bitCount_0f7a4 27 = .ok (.iushr, 1) := by decide +kernel
theorem dJ6_bitCount_0f7a4_28 : decode cJ6_bitCount_0f7a4 28 = .ok (.iadd, 1) := by decide +kernel
theorem dJ6_bitCount_0f7a4_29 : decode cJ6_bitCount_0f7a4 29 = .ok (.ldc_w 267, 3) := by decide +kernel
theorem dJ6_bitCount_0f7a4_32 : decode cJ6_bitCount_0f7a4 32 = .ok (.iand, 1) := by decide +kernel
theorem dJ6_bitCount_0f7a4_33 : decode cJ6_bitCount_0f7a4 33 = .ok (.istore_n 0, 1) := by decide +kernel
theorem dJ6_bitCount_0f7a4_34 : decode cJ6_bitCount_0f7a4 34 = .ok (.iload_n 0, 1) := by decide +kernel
theorem dJ6_bitCount_0f7a4_35 : decode cJ6_bitCount_0f7a4 35 = .ok (.iload_n 0, 1) := by decide +kernel
theorem dJ6_bitCount_0f7a4_36 : decode cJ6_bitCount_0f7a4 36 = .ok (.bipush 8, 2) := by decide +kernel
theorem dJ6_bitCount_0f7a4_38 : decode cJ6_bitCount_0f7a4 38 = .ok (.iushr, 1) := by decide +kernel
theorem dJ6_bitCount_0f7a4_39 : decode cJ6_bitCount_0f7a4 39 = .ok (.iadd, 1) := by decide +kernel
theorem dJ6_bitCount_0f7a4_40 : decode cJ6_bitCount_0f7a4 40 = .ok (.istore_n 0, 1) := by decide +kernel
theorem dJ6_bitCount_0f7a4_41 : decode cJ6_bitCount_0f7a4 41 = .ok (.iload_n 0, 1) := by decide +kernel
theorem dJ6_bitCount_0f7a4_42 : decode cJ6_bitCount_0f7a4 42 = .ok (.iload_n 0, 1) := by decide +kernel
theorem dJ6_bitCount_0f7a4_43 : decode cJ6_bitCount_0f7a4 43 = .ok (.bipush 16, 2) := by decide +kernel
theorem dJ6_bitCount_0f7a4_45 : decode cJ6_bitCount_0f7a4 45 = .ok (.iushr, 1) := by decide +kernel
theorem dJ6_bitCount_0f7a4_46 : decode cJ6_bitCount_0f7a4 46 = .ok (.iadd, 1) := by decide +kernel
theorem dJ6_bitCount_0f7a4_47 : decode cJ6_bitCount_0f7a4 47 = .ok (.istore_n 0, 1) := by decide +kernel
theorem dJ6_bitCount_0f7a4_48 : decode cJ6_bitCount_0f7a4 48 = .ok (.iload_n 0, 1) := by decide +kernel
theorem dJ6_bitCount_0f7a4_49 : decode cJ6_bitCount_0f7a4 49 = .ok (.bipush 63, 2) := by decide +kernel
theorem dJ6_bitCount_0f7a4_51 : decode cJ6_bitCount_0f7a4 51 = .ok (.iand, 1) := by decide +kernel
theorem dJ6_bitCount_0f7a4_52 : decode cJ6_bitCount_0f7a4 52 = .ok (.ireturn, 1) := by decide +kernel
theorem dJ9_max_7cf53_0 : decode cJ9_max_7cf53 0 = .ok (.iload_n 0, 1) := by decide +kernel
theorem dJ9_max_7cf53_1 : decode cJ9_max_7cf53 1 = .ok (.iload_n 1, 1) := by decide +kernel
theorem dJ9_max_7cf53_2 : decode cJ9_max_7cf53 2 = .ok (.if_icmp .lt 7, 3) := by decide +kernel
theorem dJ9_max_7cf53_5 : decode cJ9_max_7cf53 5 = .ok (.iload_n 0, 1) := by decide +kernel
theorem dJ9_max_7cf53_6 : decode cJ9_max_7cf53 6 = .ok (.goto 4, 3) := by decide +kernel
theorem dJ9_max_7cf53_9 : decode cJ9_max_7cf53 9 = .ok (.iload_n 1, 1) := by decide +kernel
theorem dJ9_max_7cf53_10 : decode cJ9_max_7cf53 10 = .ok (.ireturn, 1) := by decide +kernel
theorem dJ9_min_7cf53_0 : decode cJ9_min_7cf53 0 = .ok (.iload_n 0, 1) := by decide +kernel
theorem dJ9_min_7cf53_1 : decode cJ9_min_7cf53 1 = .ok (.iload_n 1, 1) := by decide +kernel
theorem dJ9_min_7cf53_2 : decode cJ9_min_7cf53 2 = .ok (.if_icmp .gt 7, 3) := by decide +kernel
theorem dJ9_min_7cf53_5 : decode cJ9_min_7cf53 5 = .ok (.iload_n 0, 1) := by decide +kernel
theorem dJ9_min_7cf53_6 : decode cJ9_min_7cf53 6 = .ok (.goto 4, 3) := by decide +kernel
theorem dJ9_min_7cf53_9 : decode cJ9_min_7cf53 9 = .ok (.iload_n 1, 1) := by decide +kernel
theorem dJ9_min_7cf53_10 : decode cJ9_min_7cf53 10 = .ok (.ireturn, 1) := by decide +kernel
theorem dJ0_length_8abf5_0 : decode cJ0_length_8abf5 0 = .ok (.aload_n 0, 1) := by decide +kernel
theorem dJ0_length_8abf5_1 : decode cJ0_length_8abf5 1 = .ok (.getfield 9, 3) := by decide +kernel
theorem dJ0_length_8abf5_4 : decode cJ0_length_8abf5 4 = .ok (.arraylength, 1) := by decide +kernel
theorem dJ0_length_8abf5_5 : decode cJ0_length_8abf5 5 = .ok (.aload_n 0, 1) := by decide +kernel
theorem dJ0_length_8abf5_6 : decode cJ0_length_8abf5 6 = .ok (.invokevirtual 335, 3) := by decide +kernel
theorem dJ0_length_8abf5_9 : decode cJ0_length_8abf5 9 = .ok (.ishr, 1) := by decide +kernel
theorem dJ0_length_8abf5_10 : decode cJ0_length_8abf5 10 = .ok (.ireturn, 1) := by decide +kernel
theorem dJ0_charAt_5068e_0 : decode cJ0_charAt_5068e 0 = .ok (.aload_n 0, 1) := by decide +kernel
theorem dJ0_charAt_5068e_1 : decode cJ0_charAt_5068e 1 = .ok (.invokevirtual 492, 3) := by decide +kernel
theorem dJ0_charAt_5068e_4 : decode cJ0_charAt_5068e 4 = .ok (.ifCond .eq 12, 3) := by decide +kernel
theorem dJ0_charAt_5068e_7 : decode cJ0_charAt_5068e 7 = .ok (.aload_n 0, 1) := by decide +kernel
theorem dJ0_charAt_5068e_8 : decode cJ0_charAt_5068e 8 = .ok (.getfield 9, 3) := by decide +kernel
theorem dJ0_charAt_5068e_11 : decode cJ0_charAt_5068e 11 = .ok (.iload_n 1, 1) := by decide +kernel
theorem dJ0_charAt_5068e_12 : decode cJ0_charAt_5068e 12 = .ok (.invokestatic 495, 3) := by decide +kernel
theorem dJ0_charAt_5068e_15 : decode cJ0_charAt_5068e 15 = .ok (.ireturn, 1) := by decide +kernel
theorem dJ0_charAt_5068e_16 : decode cJ0_charAt_5068e 16 = .ok (.aload_n 0, 1) := by decide +kernel
theorem dJ0_charAt_5068e_17 : decode cJ0_charAt_5068e 17 = .ok (.getfield 9, 3) := by decide +kernel
theorem dJ0_charAt_5068e_20 : decode cJ0_charAt_5068e 20 = .ok (.iload_n 1, 1) := by decide +kernel
theorem dJ0_charAt_5068e_21 : decode cJ0_charAt_5068e 21 = .ok (.invokestatic 498, 3) := by decide +kernel
theorem dJ0_charAt_5068e_24 : decode cJ0_charAt_5068e 24 = .ok (.ireturn, 1) := by decide +kernel
theorem dJ0_coder_7d493_0 : decode cJ0_coder_7d493 0 = .ok (.getstatic 38, 3) := by decide +kernel
theorem dJ0_coder_7d493_3 : decode cJ0_coder_7d493 3 = .ok (.ifCond .eq 10, 3) := by decide +kernel
theorem dJ0_coder_7d493_6 : decode cJ0_coder_7d493 6 = .ok (.aload_n 0, 1) := by decide +kernel
theorem dJ0_coder_7d493_7 : decode cJ0_coder_7d493 7 = .ok (.getfield 15, 3) := by decide +kernel
theorem dJ0_coder_7d493_10 : decode cJ0_coder_7d493 10 = .ok (.goto 4, 3) := by decide +kernel
theorem dJ0_coder_7d493_13 : decode cJ0_coder_7d493 13 = .ok (.iconst 1, 1) := by decide +kernel
theorem dJ0_coder_7d493_14 : decode cJ0_coder_7d493 14 = .ok (.ireturn, 1) := by decide +kernel
theorem dJ0_isLatin1_aae02_0 : decode cJ0_isLatin1_aae02 0 = .ok (.getstatic 38, 3) := by decide +kernel
theorem dJ0_isLatin1_aae02_3 : decode cJ0_isLatin1_aae02 3 = .ok (.ifCond .eq 14, 3) := by decide +kernel
theorem dJ0_isLatin1_aae02_6 : decode cJ0_isLatin1_aae02 6 = .ok (.aload_n 0, 1) := by decide +kernel
theorem dJ0_isLatin1_aae02_7 : decode cJ0_isLatin1_aae02 7 = .ok (.getfield 15, 3) := by decide +kernel
theorem dJ0_isLatin1_aae02_10 : decode cJ0_isLatin1_aae02 10 = .ok (.ifCond .ne 7, 3) := by decide +kernel
theorem dJ0_isLatin1_aae02_13 : decode cJ0_isLatin1_aae02 13 = .ok (.iconst 1, 1) := by decide +kernel
theorem dJ0_isLatin1_aae02_14 : decode cJ0_isLatin1_aae02 14 = .ok (.goto 4, 3) := by decide +kernel
theorem dJ0_isLatin1_aae02_17 : decode cJ0_isLatin1_aae02 17 = .ok (.iconst 0, 1) := by decide +kernel
theorem dJ0_isLatin1_aae02_18 : decode cJ0_isLatin1_aae02 18 = .ok (.ireturn, 1) := by decide +kernel
theorem dJ0_checkIndex_df160_0 : decode cJ0_checkIndex_df160 0 = .ok (.iload_n 0, 1) := by decide +kernel
theorem dJ0_checkIndex_df160_1 : decode cJ0_checkIndex_df160 1 = .ok (.iload_n 1, 1) := by decide +kernel
theorem dJ0_checkIndex_df160_2 : decode cJ0_checkIndex_df160 2 = .ok (.getstatic 1053, 3) := by decide +kernel
theorem dJ0_checkIndex_df160_5 : decode cJ0_checkIndex_df160 5 = .ok (.invokestatic 1059, 3) := by decide +kernel
theorem dJ0_checkIndex_df160_8 : decode cJ0_checkIndex_df160 8 = .ok (.pop, 1) := by decide +kernel
theorem dJ0_checkIndex_df160_9 : decode cJ0_checkIndex_df160 9 = .ok (.return_, 1) := by decide +kernel
theorem dJ1_charAt_3b067_0 : decode cJ1_charAt_3b067 0 = .ok (.iload_n 1, 1) := by decide +kernel
theorem dJ1_charAt_3b067_1 : decode cJ1_charAt_3b067 1 = .ok (.aload_n 0, 1) := by decide +kernel
theorem dJ1_charAt_3b067_2 : decode cJ1_charAt_3b067 2 = .ok (.arraylength, 1) := by decide +kernel
theorem dJ1_charAt_3b067_3 : decode cJ1_charAt_3b067 3 = .ok (.invokestatic 9, 3) := by decide +kernel
theorem dJ1_charAt_3b067_6 : decode cJ1_charAt_3b067 6 = .ok (.aload_n 0, 1) := by decide +kernel
theorem dJ1_charAt_3b067_7 : decode cJ1_charAt_3b067 7 = .ok (.iload_n 1, 1) := by decide +kernel
theorem dJ1_charAt_3b067_8 : decode cJ1_charAt_3b067 8 = .ok (.baload, 1) := by decide +kernel
theorem dJ1_charAt_3b067_9 : decode cJ1_charAt_3b067 9 = .ok (.sipush 255, 3) := by decide +kernel
theorem dJ1_charAt_3b067_12 : decode cJ1_charAt_3b067 12 = .ok (.iand, 1) := by decide +kernel
theorem dJ1_charAt_3b067_13 : decode cJ1_charAt_3b067 13 = .ok (.i2c, 1) := by decide +kernel
theorem dJ1_charAt_3b067_14 : decode cJ1_charAt_3b067 14 = .ok (.ireturn, 1) := by decide +kernel
theorem dJ2_getChar_3b067_0 : decode cJ2_getChar_3b067 0 = .ok (.getstatic 44, 3) := by decide +kernel
theorem dJ2_getChar_3b067_3 : decode cJ2_getChar_3b067 3 = .ok (.ifCond .ne 25, 3) := by decide +kernel
theorem dJ2_getChar_3b067_6 : decode cJ2_getChar_3b067 6 = .ok (.iload_n 1, 1) := by decide +kernel
theorem dJ2_getChar_3b067_7 : decode cJ2_getChar_3b067 7 = .ok (.ifCond .lt 11, 3) := by decide +kernel
theorem dJ2_getChar_3b067_10 : decode cJ2_getChar_3b067 10 = .ok (.iload_n 1, 1) := by decide +kernel
theorem dJ2_getChar_3b067_11 : decode cJ2_getChar_3b067 11 = .ok (.aload_n 0, 1) := by decide +kernel
theorem dJ2_getChar_3b067_12 : decode cJ2_getChar_3b067 12 = .ok (.invokestatic 48, 3) := by decide +kernel
theorem dJ2_getChar_3b067_15 : decode cJ2_getChar_3b067 15 = .ok (.if_icmp .lt 13, 3) := by decide +kernel
theorem dJ2_getChar_3b067_18 : decode cJ2_getChar_3b067 18 = .ok (.new 52, 3) := by decide +kernel
theorem dJ2_getChar_3b067_21 : decode cJ2_getChar_3b067 21 = .ok (.dup, 1) := by decide +kernel
theorem dJ2_getChar_3b067_22 : decode cJ2_getChar_3b067 22 = .ok (.ldc 54, 2) := by decide +kernel
theorem dJ2_getChar_3b067_24 : decode cJ2_getChar_3b067 24 = .ok (.invokespecial 56, 3) := by decide +kernel
theorem dJ2_getChar_3b067_27 : decode cJ2_getChar_3b067 27 = .ok (.athrow, 1) := by decide +kernel
theorem dJ2_getChar_3b067_28 : decode cJ2_getChar_3b067 28 = .ok (.iload_n 1, 1) := by decide +kernel
theorem dJ2_getChar_3b067_29 : decode cJ2_getChar_3b067 29 = .ok (.iconst 1, 1) := by decide +kernel
theorem dJ2_getChar_3b067_30 : decode cJ2_getChar_3b067 30 = .ok (.ishl, 1) := by decide +kernel
theorem dJ2_getChar_3b067_31 : decode cJ2_getChar_3b067 31 = .ok (.istore_n 1, 1) := by decide +kernel
theorem dJ2_getChar_3b067_32 : decode cJ2_getChar_3b067 32 = .ok (.aload_n 0, 1) := by decide +kernel
theorem dJ2_getChar_3b067_33 : decode cJ2_getChar_3b067 33 = .ok (.iload_n 1, 1) := by decide +kernel
theorem dJ2_getChar_3b067_34 : decode cJ2_getChar_3b067 34 = .ok (.iinc 1 1, 3) := by decide +kernel
theorem dJ2_getChar_3b067_37 : decode cJ2_getChar_3b067 37 = .ok (.baload, 1) := by decide +kernel
theorem dJ2_getChar_3b067_38 : decode cJ2_getChar_3b067 38 = .ok (.sipush 255, 3) := by decide +kernel
theorem dJ2_getChar_3b067_41 : decode cJ2_getChar_3b067 41 = .ok (.iand, 1) := by decide +kernel
theorem dJ2_getChar_3b067_42 : decode cJ2_getChar_3b067 42 = .ok (.getstatic 59, 3) := by decide +kernel
theorem dJ2_getChar_3b067_45 : decode cJ2_getChar_3b067 45 = .ok (.ishl, 1) := by decide +kernel
theorem dJ2_getChar_3b067_46 : decode cJ2_getChar_3b067 46 = .ok (.aload_n 0, 1) := by decide +kernel
theorem dJ2_getChar_3b067_47 : decode cJ2_getChar_3b067 47 = .ok (.iload_n 1, 1) := by decide +kernel
theorem dJ2_getChar_3b067_48 : decode cJ2_getChar_3b067 48 = .ok (.baload, 1) := by decide +kernel
theorem dJ2_getChar_3b067_49 : decode cJ2_getChar_3b067 49 = .ok (.sipush 255, 3) := by decide +kernel
theorem dJ2_getChar_3b067_52 : decode cJ2_getChar_3b067 52 = .ok (.iand, 1) := by decide +kernel
theorem dJ2_getChar_3b067_53 : decode cJ2_getChar_3b067 53 = .ok (.getstatic 63, 3) := by decide +kernel
theorem dJ2_getChar_3b067_56 : decode cJ2_getChar_3b067 56 = .ok (.ishl, 1) := by decide +kernel
theorem dJ2_getChar_3b067_57 : decode cJ2_getChar_3b067 57 = .ok (.ior, 1) := by decide +kernel
theorem dJ2_getChar_3b067_58 : decode cJ2_getChar_3b067 58 = .ok (.i2c, 1) := by decide +kernel
theorem dJ2_getChar_3b067_59 : decode cJ2_getChar_3b067 59 = .ok (.ireturn, 1) := by decide +kernel
theorem dJ2_length_9d52b_0 : decode cJ2_length_9d52b 0 = .ok (.aload_n 0, 1) := by decide +kernel
theorem dJ2_length_9d52b_1 : decode cJ2_length_9d52b 1 = .ok (.arraylength, 1) := by decide +kernel
theorem dJ2_length_9d52b_2 : decode cJ2_length_9d52b 2 = .ok (.iconst 1, 1) := by decide +kernel
theorem dJ2_length_9d52b_3 : decode cJ2_length_9d52b 3 = .ok (.ishr, 1) := by decide +kernel
theorem dJ2_length_9d52b_4 : decode cJ2_length_9d52b 4 = .ok (.ireturn, 1) := by decide +kernel
theorem dJ2_charAt_3b067_0 : decode cJ2_charAt_3b067 0 = .ok (.iload_n 1, 1) := by decide +kernel
theorem dJ2_charAt_3b067_1 : decode cJ2_charAt_3b067 1 = .ok (.aload_n 0, 1) := by decide +kernel
theorem dJ2_charAt_3b067_2 : decode cJ2_charAt_3b067 2 = .ok (.invokestatic 67, 3) := by decide +kernel
theorem dJ2_charAt_3b067_5 : decode cJ2_charAt_3b067 5 = .ok (.aload_n 0, 1) := by decide +kernel
theorem dJ2_charAt_3b067_6 : decode cJ2_charAt_3b067 6 = .ok (.iload_n 1, 1) := by decide +kernel
theorem dJ2_charAt_3b067_7 : decode cJ2_charAt_3b067 7 = .ok (.invokestatic 71, 3) := by decide +kernel
theorem dJ2_charAt_3b067_10 : decode cJ2_charAt_3b067 10 = .ok (.ireturn, 1) := by decide +kernel
theorem dJ2_checkIndex_2214a_0 : decode cJ2_checkIndex_2214a 0 = .ok (.iload_n 0, 1) := by decide +kernel
theorem dJ2_checkIndex_2214a_1 : decode cJ2_checkIndex_2214a 1 = .ok (.aload_n 1, 1) := by decide +kernel
theorem dJ2_checkIndex_2214a_2 : decode cJ2_checkIndex_2214a 2 = .ok (.invokestatic 48, 3) := by decide +kernel
theorem dJ2_checkIndex_2214a_5 : decode cJ2_checkIndex_2214a 5 = .ok (.invokestatic 414, 3) := by decide +kernel
theorem dJ2_checkIndex_2214a_8 : decode cJ2_checkIndex_2214a 8 = .ok (.return_, 1) := by decide +kernel
theorem dJ7_fill_53178_0 : decode cJ7_fill_53178 0 = .ok (.iconst 0, 1) := by decide +kernel
theorem dJ7_fill_53178_1 : decode cJ7_fill_53178 1 = .ok (.istore_n 2, 1) := by decide +kernel
theorem dJ7_fill_53178_2 : decode cJ7_fill_53178 2 = .ok (.aload_n 0, 1) := by decide +kernel
theorem dJ7_fill_53178_3 : decode cJ7_fill_53178 3 = .ok (.arraylength, 1) := by decide +kernel
theorem dJ7_fill_53178_4 : decode cJ7_fill_53178 4 = .ok (.istore_n 3, 1) := by decide +kernel
theorem dJ7_fill_53178_5 : decode cJ7_fill_53178 5 = .ok (.iload_n 2, 1) := by decide +kernel
theorem dJ7_fill_53178_6 : decode cJ7_fill_53178 6 = .ok (.iload_n 3, 1) := by decide +kernel
theorem dJ7_fill_53178_7 : decode cJ7_fill_53178 7 = .ok (.if_icmp .ge 13, 3) := by decide +kernel
theorem dJ7_fill_53178_10 : decode cJ7_fill_53178 10 = .ok (.aload_n 0, 1) := by decide +kernel
theorem dJ7_fill_53178_11 : decode cJ7_fill_53178 11 = .ok (.iload_n 2, 1) := by decide +kernel
theorem dJ7_fill_53178_12 : decode cJ7_fill_53178 12 = .ok (.iload_n 1, 1) := by decide +kernel
theorem dJ7_fill_53178_13 : decode cJ7_fill_53178 13 = .ok (.iastore, 1) := by decide +kernel
theorem dJ7_fill_53178_14 : decode cJ7_fill_53178 14 = .ok (.iinc 2 1, 3) := by decide +kernel
theorem dJ7_fill_53178_17 : decode cJ7_fill_53178 17 = .ok (.goto (-12), 3) := by decide +kernel
theorem dJ7_fill_53178_20 : decode cJ7_fill_53178 20 = .ok (.return_, 1) := by decide +kernel
theorem dJ7_copyOf_59c91_0 : decode cJ7_copyOf_59c91 0 = .ok (.iload_n 1, 1) := by decide +kernel
theorem dJ7_copyOf_59c91_1 : decode cJ7_copyOf_59c91 1 = .ok (.aload_n 0, 1) := by decide +kernel
theorem dJ7_copyOf_59c91_2 : decode cJ7_copyOf_59c91 2 = .ok (.arraylength, 1) := by decide +kernel
theorem dJ7_copyOf_59c91_3 : decode cJ7_copyOf_59c91 3 = .ok (.if_icmp .ne 11, 3) := by decide +kernel
theorem dJ7_copyOf_59c91_6 : decode cJ7_copyOf_59c91 6 = .ok (.aload_n 0, 1) := by decide +kernel
theorem dJ7_copyOf_59c91_7 : decode cJ7_copyOf_59c91 7 = .ok (.invokevirtual 316, 3) := by decide +kernel
theorem dJ7_copyOf_59c91_10 : decode cJ7_copyOf_59c91 10 = .ok (.checkcast 317, 3) := by decide +kernel
theorem dJ7_copyOf_59c91_13 : decode cJ7_copyOf_59c91 13 = .ok (.areturn, 1) := by decide +kernel
theorem dJ7_copyOf_59c91_14 : decode cJ7_copyOf_59c91 14 = .ok (.iload_n 1, 1) := by decide +kernel
theorem dJ7_copyOf_59c91_15 : decode cJ7_copyOf_59c91 15 = .ok (.newarray .int, 2) := by decide +kernel
theorem dJ7_copyOf_59c91_17 : decode cJ7_copyOf_59c91 17 = .ok (.astore_n 2, 1) := by decide +kernel
theorem dJ7_copyOf_59c91_18 : decode cJ7_copyOf_59c91 18 = .ok (.aload_n 0, 1) := by decide +kernel
theorem dJ7_copyOf_59c91_19 : decode cJ7_copyOf_59c91 19 = .ok (.iconst 0, 1) := by decide +kernel
theorem dJ7_copyOf_59c91_20 : decode cJ7_copyOf_59c91 20 = .ok (.aload_n 2, 1) := by decide +kernel
theorem dJ7_copyOf_59c91_21 : decode cJ7_copyOf_59c91 21 = .ok (.iconst 0, 1) := by decide +kernel
theorem dJ7_copyOf_59c91_22 : decode cJ7_copyOf_59c91 22 = .ok (.aload_n 0, 1) := by decide +kernel
theorem dJ7_copyOf_59c91_23 : decode cJ7_copyOf_59c91 23 = .ok (.arraylength, 1) := by decide +kernel
theorem dJ7_copyOf_59c91_24 : decode cJ7_copyOf_59c91 24 = .ok (.iload_n 1, 1) := by decide +kernel
theorem dJ7_copyOf_59c91_25 : decode cJ7_copyOf_59c91 25 = .ok (.invokestatic 304, 3) := by decide +kernel
theorem dJ7_copyOf_59c91_28 : decode cJ7_copyOf_59c91 28 = .ok (.invokestatic 150, 3) := by decide +kernel
theorem dJ7_copyOf_59c91_31 : decode cJ7_copyOf_59c91 31 = .ok (.aload_n 2, 1) := by decide +kernel
theorem dJ7_copyOf_59c91_32 : decode cJ7_copyOf_59c91 32 = .ok (.areturn, 1) := by decide +kernel
theorem dJ3_checkIndex_8e157_0 : decode cJ3_checkIndex_8e157 0 = .ok (.iload_n 0, 1) := by decide +kernel
theorem dJ3_checkIndex_8e157_1 : decode cJ3_checkIndex_8e157 1 = .ok (.ifCond .lt 8, 3) := by decide +kernel
theorem dJ3_checkIndex_8e157_4 : decode cJ3_checkIndex_8e157 4 = .ok (.iload_n 0, 1) := by decide +kernel
theorem dJ3_checkIndex_8e157_5 : decode cJ3_checkIndex_8e157 5 = .ok (.iload_n 1, 1) := by decide +kernel
theorem dJ3_checkIndex_8e157_6 : decode cJ3_checkIndex_8e157 6 = .ok (.if_icmp .lt 10, 3) := by decide +kernel
theorem dJ3_checkIndex_8e157_9 : decode cJ3_checkIndex_8e157 9 = .ok (.aload_n 2, 1) := by decide +kernel
theorem dJ3_checkIndex_8e157_10 : decode cJ3_checkIndex_8e157 10 = .ok (.iload_n 0, 1) := by decide +kernel
theorem dJ3_checkIndex_8e157_11 : decode cJ3_checkIndex_8e157 11 = .ok (.iload_n 1, 1) := by decide +kernel
theorem dJ3_checkIndex_8e157_12 : decode cJ3_checkIndex_8e157 12 = .ok (.invokestatic 95, 3) := by decide +kernel
theorem dJ3_checkIndex_8e157_15 : decode cJ3_checkIndex_8e157 15 = .ok (.athrow, 1) := by decide +kernel
theorem dJ3_checkIndex_8e157_16 : decode cJ3_checkIndex_8e157 16 = .ok (.iload_n 0, 1) := by decide +kernel
theorem dJ3_checkIndex_8e157_17 : decode cJ3_checkIndex_8e157 17 = .ok (.ireturn, 1) := by decide +kernel
theorem dL_law_0 : decode cL_law 0 = .ok (.new 7, 3) := by decide +kernel
theorem dL_law_3 : decode cL_law 3 = .ok (.dup, 1) := by decide +kernel
theorem dL_law_4 : decode cL_law 4 = .ok (.invokespecial 9, 3) := by decide +kernel
theorem dL_law_7 : decode cL_law 7 = .ok (.astore_n 1, 1) := by decide +kernel
theorem dL_law_8 : decode cL_law 8 = .ok (.new 10, 3) := by decide +kernel
theorem dL_law_11 : decode cL_law 11 = .ok (.dup, 1) := by decide +kernel
theorem dL_law_12 : decode cL_law 12 = .ok (.invokespecial 12, 3) := by decide +kernel
theorem dL_law_15 : decode cL_law 15 = .ok (.astore_n 2, 1) := by decide +kernel
theorem dL_law_16 : decode cL_law 16 = .ok (.iconst 0, 1) := by decide +kernel
theorem dL_law_17 : decode cL_law 17 = .ok (.istore_n 3, 1) := by decide +kernel
theorem dL_law_18 : decode cL_law 18 = .ok (.iload_n 3, 1) := by decide +kernel
theorem dL_law_19 : decode cL_law 19 = .ok (.aload_n 0, 1) := by decide +kernel
theorem dL_law_20 : decode cL_law 20 = .ok (.arraylength, 1) := by decide +kernel
theorem dL_law_21 : decode cL_law 21 = .ok (.bipush 7, 2) := by decide +kernel
theorem dL_law_23 : decode cL_law 23 = .ok (.isub, 1) := by decide +kernel
theorem dL_law_24 : decode cL_law 24 = .ok (.if_icmp .gt 1440, 3) := by decide +kernel
theorem dL_law_27 : decode cL_law 27 = .ok (.aload_n 0, 1) := by decide +kernel
theorem dL_law_28 : decode cL_law 28 = .ok (.iload_n 3, 1) := by decide +kernel
theorem dL_law_29 : decode cL_law 29 = .ok (.iaload, 1) := by decide +kernel
theorem dL_law_30 : decode cL_law 30 = .ok (.bipush 63, 2) := by decide +kernel
theorem dL_law_32 : decode cL_law 32 = .ok (.iand, 1) := by decide +kernel
theorem dL_law_33 : decode cL_law 33 = .ok (.tableswitch 1425 0 37 #[167, 190, 223, 298, 311, 334, 387, 430, 463, 506, 519, 542, 565, 588, 611, 644, 687, 720, 753, 786, 829, 852, 865, 888, 911, 934, 977, 1000, 1023, 1056, 1099, 1163, 1176, 1189, 1232, 1275, 1338, 1391], 167) := by decide +kernel
theorem dL_law_200 : decode cL_law 200 = .ok (.aload_n 1, 1) := by decide +kernel
theorem dL_law_201 : decode cL_law 201 = .ok (.aload_n 0, 1) := by decide +kernel
theorem dL_law_202 : decode cL_law 202 = .ok (.iload_n 3, 1) := by decide +kernel
theorem dL_law_203 : decode cL_law 203 = .ok (.iconst 1, 1) := by decide +kernel
theorem dL_law_204 : decode cL_law 204 = .ok (.iadd, 1) := by decide +kernel
theorem dL_law_205 : decode cL_law 205 = .ok (.iaload, 1) := by decide +kernel
theorem dL_law_206 : decode cL_law 206 = .ok (.invokevirtual 13, 3) := by decide +kernel
theorem dL_law_209 : decode cL_law 209 = .ok (.aload_n 2, 1) := by decide +kernel
theorem dL_law_210 : decode cL_law 210 = .ok (.aload_n 0, 1) := by decide +kernel
theorem dL_law_211 : decode cL_law 211 = .ok (.iload_n 3, 1) := by decide +kernel
theorem dL_law_212 : decode cL_law 212 = .ok (.iconst 1, 1) := by decide +kernel
theorem dL_law_213 : decode cL_law 213 = .ok (.iadd, 1) := by decide +kernel
theorem dL_law_214 : decode cL_law 214 = .ok (.iaload, 1) := by decide +kernel
theorem dL_law_215 : decode cL_law 215 = .ok (.invokevirtual 17, 3) := by decide +kernel
theorem dL_law_218 : decode cL_law 218 = .ok (.if_icmp .eq 1240, 3) := by decide +kernel
theorem dL_law_221 : decode cL_law 221 = .ok (.iconst 0, 1) := by decide +kernel
theorem dL_law_222 : decode cL_law 222 = .ok (.ireturn, 1) := by decide +kernel
theorem dL_law_223 : decode cL_law 223 = .ok (.aload_n 1, 1) := by decide +kernel
theorem dL_law_224 : decode cL_law 224 = .ok (.aload_n 0, 1) := by decide +kernel
theorem dL_law_225 : decode cL_law 225 = .ok (.iload_n 3, 1) := by decide +kernel
theorem dL_law_226 : decode cL_law 226 = .ok (.iconst 1, 1) := by decide +kernel
theorem dL_law_227 : decode cL_law 227 = .ok (.iadd, 1) := by decide +kernel
theorem dL_law_228 : decode cL_law 228 = .ok (.iaload, 1) := by decide +kernel
theorem dL_law_229 : decode cL_law 229 = .ok (.aload_n 0, 1) := by decide +kernel
theorem dL_law_230 : decode cL_law 230 = .ok (.iload_n 3, 1) := by decide +kernel
theorem dL_law_231 : decode cL_law 231 = .ok (.iconst 2, 1) := by decide +kernel
theorem dL_law_232 : decode cL_law 232 = .ok (.iadd, 1) := by decide +kernel
theorem dL_law_233 : decode cL_law 233 = .ok (.iaload, 1) := by decide +kernel
theorem dL_law_234 : decode cL_law 234 = .ok (.invokevirtual 18, 3) := by decide +kernel
theorem dL_law_237 : decode cL_law 237 = .ok (.aload_n 2, 1) := by decide +kernel
theorem dL_law_238 : decode cL_law 238 = .ok (.aload_n 0, 1) := by decide +kernel
theorem dL_law_239 : decode cL_law 239 = .ok (.iload_n 3, 1) := by decide +kernel
theorem dL_law_240 : decode cL_law 240 = .ok (.iconst 1, 1) := by decide +kernel
theorem dL_law_241 : decode cL_law 241 = .ok (.iadd, 1) := by decide +kernel
theorem dL_law_242 : decode cL_law 242 = .ok (.iaload, 1) := by decide +kernel
theorem dL_law_243 : decode cL_law 243 = .ok (.aload_n 0, 1) := by decide +kernel
theorem dL_law_244 : decode cL_law 244 = .ok (.iload_n 3, 1) := by decide +kernel
theorem dL_law_245 : decode cL_law 245 = .ok (.iconst 2, 1) := by decide +kernel
theorem dL_law_246 : decode cL_law 246 = .ok (.iadd, 1) := by decide +kernel
theorem dL_law_247 : decode cL_law 247 = .ok (.iaload, 1) := by decide +kernel
theorem dL_law_248 : decode cL_law 248 = .ok (.invokevirtual 22, 3) := by decide +kernel
theorem dL_law_251 : decode cL_law 251 = .ok (.if_icmp .eq 1207, 3) := by decide +kernel
theorem dL_law_254 : decode cL_law 254 = .ok (.iconst 0, 1) := by decide +kernel
theorem dL_law_255 : decode cL_law 255 = .ok (.ireturn, 1) := by decide +kernel
theorem dL_law_256 : decode cL_law 256 = .ok (.aload_n 1, 1) := by decide +kernel
theorem dL_law_257 : decode cL_law 257 = .ok (.aload_n 0, 1) := by decide +kernel
theorem dL_law_258 : decode cL_law 258 = .ok (.iload_n 3, 1) := by decide +kernel
theorem dL_law_259 : decode cL_law 259 = .ok (.iconst 1, 1) := by decide +kernel
theorem dL_law_260 : decode cL_law 260 = .ok (.iadd, 1) := by decide +kernel
theorem dL_law_261 : decode cL_law 261 = .ok (.iaload, 1) := by decide +kernel
theorem dL_law_262 : decode cL_law 262 = .ok (.aload_n 0, 1) := by decide +kernel
theorem dL_law_263 : decode cL_law 263 = .ok (.iload_n 3, 1) := by decide +kernel
theorem dL_law_264 : decode cL_law 264 = .ok (.iconst 2, 1) := by decide +kernel
theorem dL_law_265 : decode cL_law 265 = .ok (.iadd, 1) := by decide +kernel
theorem dL_law_266 : decode cL_law 266 = .ok (.iaload, 1) := by decide +kernel
theorem dL_law_267 : decode cL_law 267 = .ok (.aload_n 0, 1) := by decide +kernel
theorem dL_law_268 : decode cL_law 268 = .ok (.iload_n 3, 1) := by decide +kernel
theorem dL_law_269 : decode cL_law 269 = .ok (.iconst 3, 1) := by decide +kernel
theorem dL_law_270 : decode cL_law 270 = .ok (.iadd, 1) := by decide +kernel
theorem dL_law_271 : decode cL_law 271 = .ok (.iaload, 1) := by decide +kernel
theorem dL_law_272 : decode cL_law 272 = .ok (.aload_n 0, 1) := by decide +kernel
theorem dL_law_273 : decode cL_law 273 = .ok (.iload_n 3, 1) := by decide +kernel
theorem dL_law_274 : decode cL_law 274 = .ok (.iconst 4, 1) := by decide +kernel
theorem dL_law_275 : decode cL_law 275 = .ok (.iadd, 1) := by decide +kernel
theorem dL_law_276 : decode cL_law 276 = .ok (.iaload, 1) := by decide +kernel
theorem dL_law_277 : decode cL_law 277 = .ok (.aload_n 0, 1) := by decide +kernel
theorem dL_law_278 : decode cL_law 278 = .ok (.iload_n 3, 1) := by decide +kernel
theorem dL_law_279 : decode cL_law 279 = .ok (.iconst 5, 1) := by decide +kernel
theorem dL_law_280 : decode cL_law 280 = .ok (.iadd, 1) := by decide +kernel
theorem dL_law_281 : decode cL_law 281 = .ok (.iaload, 1) := by decide +kernel
theorem dL_law_282 : decode cL_law 282 = .ok (.aload_n 0, 1) := by decide +kernel
theorem dL_law_283 : decode cL_law 283 = .ok (.iload_n 3, 1) := by decide +kernel
theorem dL_law_284 : decode cL_law 284 = .ok (.bipush 6, 2) := by decide +kernel
theorem dL_law_286 : decode cL_law 286 = .ok (.iadd, 1) := by decide +kernel
theorem dL_law_287 : decode cL_law 287 = .ok (.iaload, 1) := by decide +kernel
theorem dL_law_288 : decode cL_law 288 = .ok (.invokevirtual 23, 3) := by decide +kernel
theorem dL_law_291 : decode cL_law 291 = .ok (.aload_n 2, 1) := by decide +kernel
theorem dL_law_292 : decode cL_law 292 = .ok (.aload_n 0, 1) := by decide +kernel
theorem dL_law_293 : decode cL_law 293 = .ok (.iload_n 3, 1) := by decide +kernel
theorem dL_law_294 : decode cL_law 294 = .ok (.iconst 1, 1) := by decide +kernel
theorem dL_law_295 : decode cL_law 295 = .ok (.iadd, 1) := by decide +kernel
theorem dL_law_296 : decode cL_law 296 = .ok (.iaload, 1) := by decide +kernel
theorem dL_law_297 : decode cL_law 297 = .ok (.aload_n 0, 1) := by decide +kernel
theorem dL_law_298 : decode cL_law 298 = .ok (.iload_n 3, 1) := by decide +kernel
theorem dL_law_299 : decode cL_law 299 = .ok (.iconst 2, 1) := by decide +kernel
theorem dL_law_300 : decode cL_law 300 = .ok (.iadd, 1) := by decide +kernel
theorem dL_law_301 : decode cL_law 301 = .ok (.iaload, 1) := by decide +kernel
theorem dL_law_302 : decode cL_law 302 = .ok (.aload_n 0, 1) := by decide +kernel
theorem dL_law_303 : decode cL_law 303 = .ok (.iload_n 3, 1) := by decide +kernel
theorem dL_law_304 : decode cL_law 304 = .ok (.iconst 3, 1) := by decide +kernel
theorem dL_law_305 : decode cL_law 305 = .ok (.iadd, 1) := by decide +kernel
theorem dL_law_306 : decode cL_law 306 = .ok (.iaload, 1) := by decide +kernel
theorem dL_law_307 : decode cL_law 307 = .ok (.aload_n 0, 1) := by decide +kernel
theorem dL_law_308 : decode cL_law 308 = .ok (.iload_n 3, 1) := by decide +kernel
theorem dL_law_309 : decode cL_law 309 = .ok (.iconst 4, 1) := by decide +kernel
theorem dL_law_310 : decode cL_law 310 = .ok (.iadd, 1) := by decide +kernel
theorem dL_law_311 : decode cL_law 311 = .ok (.iaload, 1) := by decide +kernel
theorem dL_law_312 : decode cL_law 312 = .ok (.aload_n 0, 1) := by decide +kernel
theorem dL_law_313 : decode cL_law 313 = .ok (.iload_n 3, 1) := by decide +kernel
theorem dL_law_314 : decode cL_law 314 = .ok (.iconst 5, 1) := by decide +kernel
theorem dL_law_315 : decode cL_law 315 = .ok (.iadd, 1) := by decide +kernel
theorem dL_law_316 : decode cL_law 316 = .ok (.iaload, 1) := by decide +kernel
theorem dL_law_317 : decode cL_law 317 = .ok (.aload_n 0, 1) := by decide +kernel
theorem dL_law_318 : decode cL_law 318 = .ok (.iload_n 3, 1) := by decide +kernel
theorem dL_law_319 : decode cL_law 319 = .ok (.bipush 6, 2) := by decide +kernel
theorem dL_law_321 : decode cL_law 321 = .ok (.iadd, 1) := by decide +kernel
theorem dL_law_322 : decode cL_law 322 = .ok (.iaload, 1) := by decide +kernel
theorem dL_law_323 : decode cL_law 323 = .ok (.invokevirtual 27, 3) := by decide +kernel
theorem dL_law_326 : decode cL_law 326 = .ok (.if_icmp .eq 1132, 3) := by decide +kernel
theorem dL_law_329 : decode cL_law 329 = .ok (.iconst 0, 1) := by decide +kernel
theorem dL_law_330 : decode cL_law 330 = .ok (.ireturn, 1) := by decide +kernel
theorem dL_law_331 : decode cL_law 331 = .ok (.aload_n 1, 1) := by decide +kernel
theorem dL_law_332 : decode cL_law 332 = .ok (.invokevirtual 28, 3) := by decide +kernel
theorem dL_law_335 : decode cL_law 335 = .ok (.aload_n 2, 1) := by decide +kernel
theorem dL_law_336 : decode cL_law 336 = .ok (.invokevirtual 32, 3) := by decide +kernel
theorem dL_law_339 : decode cL_law 339 = .ok (.if_icmp .eq 1119, 3) := by decide +kernel
theorem dL_law_342 : decode cL_law 342 = .ok (.iconst 0, 1) := by decide +kernel
theorem dL_law_343 : decode cL_law 343 = .ok (.ireturn, 1) := by decide +kernel
theorem dL_law_344 : decode cL_law 344 = .ok (.aload_n 1, 1) := by decide +kernel
theorem dL_law_345 : decode cL_law 345 = .ok (.aload_n 0, 1) := by decide +kernel
theorem dL_law_346 : decode cL_law 346 = .ok (.iload_n 3, 1) := by decide +kernel
theorem dL_law_347 : decode cL_law 347 = .ok (.iconst 1, 1) := by decide +kernel
theorem dL_law_348 : decode cL_law 348 = .ok (.iadd, 1) := by decide +kernel
theorem dL_law_349 : decode cL_law 349 = .ok (.iaload, 1) := by decide +kernel
theorem dL_law_350 : decode cL_law 350 = .ok (.invokevirtual 33, 3) := by decide +kernel
theorem dL_law_353 : decode cL_law 353 = .ok (.aload_n 2, 1) := by decide +kernel
theorem dL_law_354 : decode cL_law 354 = .ok (.aload_n 0, 1) := by decide +kernel
theorem dL_law_355 : decode cL_law 355 = .ok (.iload_n 3, 1) := by decide +kernel
theorem dL_law_356 : decode cL_law 356 = .ok (.iconst 1, 1) := by decide +kernel
theorem dL_law_357 : decode cL_law 357 = .ok (.iadd, 1) := by decide +kernel
theorem dL_law_358 : decode cL_law 358 = .ok (.iaload, 1) := by decide +kernel
theorem dL_law_359 : decode cL_law 359 = .ok (.invokevirtual 36, 3) := by decide +kernel
theorem dL_law_362 : decode cL_law 362 = .ok (.if_icmp .eq 1096, 3) := by decide +kernel
theorem dL_law_365 : decode cL_law 365 = .ok (.iconst 0, 1) := by decide +kernel
theorem dL_law_366 : decode cL_law 366 = .ok (.ireturn, 1) := by decide +kernel
theorem dL_law_367 : decode cL_law 367 = .ok (.aload_n 1, 1) := by decide +kernel
theorem dL_law_368 : decode cL_law 368 = .ok (.aload_n 0, 1) := by decide +kernel
theorem dL_law_369 : decode cL_law 369 = .ok (.iload_n 3, 1) := by decide +kernel
theorem dL_law_370 : decode cL_law 370 = .ok (.iconst 1, 1) := by decide +kernel
theorem dL_law_371 : decode cL_law 371 = .ok (.iadd, 1) := by decide +kernel
theorem dL_law_372 : decode cL_law 372 = .ok (.iaload, 1) := by decide +kernel
theorem dL_law_373 : decode cL_law 373 = .ok (.aload_n 0, 1) := by decide +kernel
theorem dL_law_374 : decode cL_law 374 = .ok (.iload_n 3, 1) := by decide +kernel
theorem dL_law_375 : decode cL_law 375 = .ok (.iconst 2, 1) := by decide +kernel
theorem dL_law_376 : decode cL_law 376 = .ok (.iadd, 1) := by decide +kernel
theorem dL_law_377 : decode cL_law 377 = .ok (.iaload, 1) := by decide +kernel
theorem dL_law_378 : decode cL_law 378 = .ok (.aload_n 0, 1) := by decide +kernel
theorem dL_law_379 : decode cL_law 379 = .ok (.iload_n 3, 1) := by decide +kernel
theorem dL_law_380 : decode cL_law 380 = .ok (.iconst 3, 1) := by decide +kernel
theorem dL_law_381 : decode cL_law 381 = .ok (.iadd, 1) := by decide +kernel
theorem dL_law_382 : decode cL_law 382 = .ok (.iaload, 1) := by decide +kernel
theorem dL_law_383 : decode cL_law 383 = .ok (.aload_n 0, 1) := by decide +kernel
theorem dL_law_384 : decode cL_law 384 = .ok (.iload_n 3, 1) := by decide +kernel
theorem dL_law_385 : decode cL_law 385 = .ok (.iconst 4, 1) := by decide +kernel
theorem dL_law_386 : decode cL_law 386 = .ok (.iadd, 1) := by decide +kernel
theorem dL_law_387 : decode cL_law 387 = .ok (.iaload, 1) := by decide +kernel
theorem dL_law_388 : decode cL_law 388 = .ok (.invokevirtual 37, 3) := by decide +kernel
theorem dL_law_391 : decode cL_law 391 = .ok (.aload_n 2, 1) := by decide +kernel
theorem dL_law_392 : decode cL_law 392 = .ok (.aload_n 0, 1) := by decide +kernel
theorem dL_law_393 : decode cL_law 393 = .ok (.iload_n 3, 1) := by decide +kernel
theorem dL_law_394 : decode cL_law 394 = .ok (.iconst 1, 1) := by decide +kernel
theorem dL_law_395 : decode cL_law 395 = .ok (.iadd, 1) := by decide +kernel
theorem dL_law_396 : decode cL_law 396 = .ok (.iaload, 1) := by decide +kernel
theorem dL_law_397 : decode cL_law 397 = .ok (.aload_n 0, 1) := by decide +kernel
theorem dL_law_398 : decode cL_law 398 = .ok (.iload_n 3, 1) := by decide +kernel
theorem dL_law_399 : decode cL_law 399 = .ok (.iconst 2, 1) := by decide +kernel
theorem dL_law_400 : decode cL_law 400 = .ok (.iadd, 1) := by decide +kernel
theorem dL_law_401 : decode cL_law 401 = .ok (.iaload, 1) := by decide +kernel
theorem dL_law_402 : decode cL_law 402 = .ok (.aload_n 0, 1) := by decide +kernel
theorem dL_law_403 : decode cL_law 403 = .ok (.iload_n 3, 1) := by decide +kernel
theorem dL_law_404 : decode cL_law 404 = .ok (.iconst 3, 1) := by decide +kernel
theorem dL_law_405 : decode cL_law 405 = .ok (.iadd, 1) := by decide +kernel
theorem dL_law_406 : decode cL_law 406 = .ok (.iaload, 1) := by decide +kernel
theorem dL_law_407 : decode cL_law 407 = .ok (.aload_n 0, 1) := by decide +kernel
theorem dL_law_408 : decode cL_law 408 = .ok (.iload_n 3, 1) := by decide +kernel
theorem dL_law_409 : decode cL_law 409 = .ok (.iconst 4, 1) := by decide +kernel
theorem dL_law_410 : decode cL_law 410 = .ok (.iadd, 1) := by decide +kernel
theorem dL_law_411 : decode cL_law 411 = .ok (.iaload, 1) := by decide +kernel
theorem dL_law_412 : decode cL_law 412 = .ok (.invokevirtual 41, 3) := by decide +kernel
theorem dL_law_415 : decode cL_law 415 = .ok (.if_icmp .eq 1043, 3) := by decide +kernel
theorem dL_law_418 : decode cL_law 418 = .ok (.iconst 0, 1) := by decide +kernel
theorem dL_law_419 : decode cL_law 419 = .ok (.ireturn, 1) := by decide +kernel
theorem dL_law_420 : decode cL_law 420 = .ok (.aload_n 1, 1) := by decide +kernel
theorem dL_law_421 : decode cL_law 421 = .ok (.aload_n 0, 1) := by decide +kernel
theorem dL_law_422 : decode cL_law 422 = .ok (.iload_n 3, 1) := by decide +kernel
theorem dL_law_423 : decode cL_law 423 = .ok (.iconst 1, 1) := by decide +kernel
theorem dL_law_424 : decode cL_law 424 = .ok (.iadd, 1) := by decide +kernel
theorem dL_law_425 : decode cL_law 425 = .ok (.iaload, 1) := by decide +kernel
theorem dL_law_426 : decode cL_law 426 = .ok (.aload_n 0, 1) := by decide +kernel
theorem dL_law_427 : decode cL_law 427 = .ok (.iload_n 3, 1) := by decide +kernel
theorem dL_law_428 : decode cL_law 428 = .ok (.iconst 2, 1) := by decide +kernel
theorem dL_law_429 : decode cL_law 429 = .ok (.iadd, 1) := by decide +kernel
theorem dL_law_430 : decode cL_law 430 = .ok (.iaload, 1) := by decide +kernel
theorem dL_law_431 : decode cL_law 431 = .ok (.aload_n 0, 1) := by decide +kernel
theorem dL_law_432 : decode cL_law 432 = .ok (.iload_n 3, 1) := by decide +kernel
theorem dL_law_433 : decode cL_law 433 = .ok (.iconst 3, 1) := by decide +kernel
theorem dL_law_434 : decode cL_law 434 = .ok (.iadd, 1) := by decide +kernel
theorem dL_law_435 : decode cL_law 435 = .ok (.iaload, 1) := by decide +kernel
theorem dL_law_436 : decode cL_law 436 = .ok (.invokevirtual 42, 3) := by decide +kernel
theorem dL_law_439 : decode cL_law 439 = .ok (.aload_n 2, 1) := by decide +kernel
theorem dL_law_440 : decode cL_law 440 = .ok (.aload_n 0, 1) := by decide +kernel
theorem dL_law_441 : decode cL_law 441 = .ok (.iload_n 3, 1) := by decide +kernel
theorem dL_law_442 : decode cL_law 442 = .ok (.iconst 1, 1) := by decide +kernel
theorem dL_law_443 : decode cL_law 443 = .ok (.iadd, 1) := by decide +kernel
theorem dL_law_444 : decode cL_law 444 = .ok (.iaload, 1) := by decide +kernel
theorem dL_law_445 : decode cL_law 445 = .ok (.aload_n 0, 1) := by decide +kernel
theorem dL_law_446 : decode cL_law 446 = .ok (.iload_n 3, 1) := by decide +kernel
theorem dL_law_447 : decode cL_law 447 = .ok (.iconst 2, 1) := by decide +kernel
theorem dL_law_448 : decode cL_law 448 = .ok (.iadd, 1) := by decide +kernel
theorem dL_law_449 : decode cL_law 449 = .ok (.iaload, 1) := by decide +kernel
theorem dL_law_450 : decode cL_law 450 = .ok (.aload_n 0, 1) := by decide +kernel
theorem dL_law_451 : decode cL_law 451 = .ok (.iload_n 3, 1) := by decide +kernel
theorem dL_law_452 : decode cL_law 452 = .ok (.iconst 3, 1) := by decide +kernel
theorem dL_law_453 : decode cL_law 453 = .ok (.iadd, 1) := by decide +kernel
theorem dL_law_454 : decode cL_law 454 = .ok (.iaload, 1) := by decide +kernel
theorem dL_law_455 : decode cL_law 455 = .ok (.invokevirtual 46, 3) := by decide +kernel
theorem dL_law_458 : decode cL_law 458 = .ok (.if_icmp .eq 1000, 3) := by decide +kernel
theorem dL_law_461 : decode cL_law 461 = .ok (.iconst 0, 1) := by decide +kernel
theorem dL_law_462 : decode cL_law 462 = .ok (.ireturn, 1) := by decide +kernel
theorem dL_law_463 : decode cL_law 463 = .ok (.aload_n 1, 1) := by decide +kernel
theorem dL_law_464 : decode cL_law 464 = .ok (.aload_n 0, 1) := by decide +kernel
theorem dL_law_465 : decode cL_law 465 = .ok (.iload_n 3, 1) := by decide +kernel
theorem dL_law_466 : decode cL_law 466 = .ok (.iconst 1, 1) := by decide +kernel
theorem dL_law_467 : decode cL_law 467 = .ok (.iadd, 1) := by decide +kernel
theorem dL_law_468 : decode cL_law 468 = .ok (.iaload, 1) := by decide +kernel
theorem dL_law_469 : decode cL_law 469 = .ok (.aload_n 0, 1) := by decide +kernel
theorem dL_law_470 : decode cL_law 470 = .ok (.iload_n 3, 1) := by decide +kernel
theorem dL_law_471 : decode cL_law 471 = .ok (.iconst 2, 1) := by decide +kernel
theorem dL_law_472 : decode cL_law 472 = .ok (.iadd, 1) := by decide +kernel
theorem dL_law_473 : decode cL_law 473 = .ok (.iaload, 1) := by decide +kernel
theorem dL_law_474 : decode cL_law 474 = .ok (.invokevirtual 47, 3) := by decide +kernel
theorem dL_law_477 : decode cL_law 477 = .ok (.aload_n 2, 1) := by decide +kernel
theorem dL_law_478 : decode cL_law 478 = .ok (.aload_n 0, 1) := by decide +kernel
theorem dL_law_479 : decode cL_law 479 = .ok (.iload_n 3, 1) := by decide +kernel
theorem dL_law_480 : decode cL_law 480 = .ok (.iconst 1, 1) := by decide +kernel
theorem dL_law_481 : decode cL_law 481 = .ok (.iadd, 1) := by decide +kernel
theorem dL_law_482 : decode cL_law 482 = .ok (.iaload, 1) := by decide +kernel
theorem dL_law_483 : decode cL_law 483 = .ok (.aload_n 0, 1) := by decide +kernel
theorem dL_law_484 : decode cL_law 484 = .ok (.iload_n 3, 1) := by decide +kernel
theorem dL_law_485 : decode cL_law 485 = .ok (.iconst 2, 1) := by decide +kernel
theorem dL_law_486 : decode cL_law 486 = .ok (.iadd, 1) := by decide +kernel
theorem dL_law_487 : decode cL_law 487 = .ok (.iaload, 1) := by decide +kernel
theorem dL_law_488 : decode cL_law 488 = .ok (.invokevirtual 50, 3) := by decide +kernel
theorem dL_law_491 : decode cL_law 491 = .ok (.if_icmp .eq 967, 3) := by decide +kernel
theorem dL_law_494 : decode cL_law 494 = .ok (.iconst 0, 1) := by decide +kernel
theorem dL_law_495 : decode cL_law 495 = .ok (.ireturn, 1) := by decide +kernel
theorem dL_law_496 : decode cL_law 496 = .ok (.aload_n 1, 1) := by decide +kernel
theorem dL_law_497 : decode cL_law 497 = .ok (.aload_n 0, 1) := by decide +kernel
theorem dL_law_498 : decode cL_law 498 = .ok (.iload_n 3, 1) := by decide +kernel
theorem dL_law_499 : decode cL_law 499 = .ok (.iconst 1, 1) := by decide +kernel
theorem dL_law_500 : decode cL_law 500 = .ok (.iadd, 1) := by decide +kernel
theorem dL_law_501 : decode cL_law 501 = .ok (.iaload, 1) := by decide +kernel
theorem dL_law_502 : decode cL_law 502 = .ok (.aload_n 0, 1) := by decide +kernel
theorem dL_law_503 : decode cL_law 503 = .ok (.iload_n 3, 1) := by decide +kernel
theorem dL_law_504 : decode cL_law 504 = .ok (.iconst 2, 1) := by decide +kernel
theorem dL_law_505 : decode cL_law 505 = .ok (.iadd, 1) := by decide +kernel
theorem dL_law_506 : decode cL_law 506 = .ok (.iaload, 1) := by decide +kernel
theorem dL_law_507 : decode cL_law 507 = .ok (.aload_n 0, 1) := by decide +kernel
theorem dL_law_508 : decode cL_law 508 = .ok (.iload_n 3, 1) := by decide +kernel
theorem dL_law_509 : decode cL_law 509 = .ok (.iconst 3, 1) := by decide +kernel
theorem dL_law_510 : decode cL_law 510 = .ok (.iadd, 1) := by decide +kernel
theorem dL_law_511 : decode cL_law 511 = .ok (.iaload, 1) := by decide +kernel
theorem dL_law_512 : decode cL_law 512 = .ok (.invokevirtual 51, 3) := by decide +kernel
theorem dL_law_515 : decode cL_law 515 = .ok (.aload_n 2, 1) := by decide +kernel
theorem dL_law_516 : decode cL_law 516 = .ok (.aload_n 0, 1) := by decide +kernel
theorem dL_law_517 : decode cL_law 517 = .ok (.iload_n 3, 1) := by decide +kernel
theorem dL_law_518 : decode cL_law 518 = .ok (.iconst 1, 1) := by decide +kernel
theorem dL_law_519 : decode cL_law 519 = .ok (.iadd, 1) := by decide +kernel
theorem dL_law_520 : decode cL_law 520 = .ok (.iaload, 1) := by decide +kernel
theorem dL_law_521 : decode cL_law 521 = .ok (.aload_n 0, 1) := by decide +kernel
theorem dL_law_522 : decode cL_law 522 = .ok (.iload_n 3, 1) := by decide +kernel
theorem dL_law_523 : decode cL_law 523 = .ok (.iconst 2, 1) := by decide +kernel
theorem dL_law_524 : decode cL_law 524 = .ok (.iadd, 1) := by decide +kernel
theorem dL_law_525 : decode cL_law 525 = .ok (.iaload, 1) := by decide +kernel
theorem dL_law_526 : decode cL_law 526 = .ok (.aload_n 0, 1) := by decide +kernel
theorem dL_law_527 : decode cL_law 527 = .ok (.iload_n 3, 1) := by decide +kernel
theorem dL_law_528 : decode cL_law 528 = .ok (.iconst 3, 1) := by decide +kernel
theorem dL_law_529 : decode cL_law 529 = .ok (.iadd, 1) := by decide +kernel
theorem dL_law_530 : decode cL_law 530 = .ok (.iaload, 1) := by decide +kernel
theorem dL_law_531 : decode cL_law 531 = .ok (.invokevirtual 54, 3) := by decide +kernel
theorem dL_law_534 : decode cL_law 534 = .ok (.if_icmp .eq 924, 3) := by decide +kernel
theorem dL_law_537 : decode cL_law 537 = .ok (.iconst 0, 1) := by decide +kernel
theorem dL_law_538 : decode cL_law 538 = .ok (.ireturn, 1) := by decide +kernel
theorem dL_law_539 : decode cL_law 539 = .ok (.aload_n 1, 1) := by decide +kernel
theorem dL_law_540 : decode cL_law 540 = .ok (.invokevirtual 55, 3) := by decide +kernel
theorem dL_law_543 : decode cL_law 543 = .ok (.aload_n 2, 1) := by decide +kernel
theorem dL_law_544 : decode cL_law 544 = .ok (.invokevirtual 58, 3) := by decide +kernel
theorem dL_law_547 : decode cL_law 547 = .ok (.if_icmp .eq 911, 3) := by decide +kernel
theorem dL_law_550 : decode cL_law 550 = .ok (.iconst 0, 1) := by decide +kernel
theorem dL_law_551 : decode cL_law 551 = .ok (.ireturn, 1) := by decide +kernel
theorem dL_law_552 : decode cL_law 552 = .ok (.aload_n 1, 1) := by decide +kernel
theorem dL_law_553 : decode cL_law 553 = .ok (.aload_n 0, 1) := by decide +kernel
theorem dL_law_554 : decode cL_law 554 = .ok (.iload_n 3, 1) := by decide +kernel
theorem dL_law_555 : decode cL_law 555 = .ok (.iconst 1, 1) := by decide +kernel
theorem dL_law_556 : decode cL_law 556 = .ok (.iadd, 1) := by decide +kernel
theorem dL_law_557 : decode cL_law 557 = .ok (.iaload, 1) := by decide +kernel
theorem dL_law_558 : decode cL_law 558 = .ok (.invokevirtual 59, 3) := by decide +kernel
theorem dL_law_561 : decode cL_law 561 = .ok (.aload_n 2, 1) := by decide +kernel
theorem dL_law_562 : decode cL_law 562 = .ok (.aload_n 0, 1) := by decide +kernel
theorem dL_law_563 : decode cL_law 563 = .ok (.iload_n 3, 1) := by decide +kernel
theorem dL_law_564 : decode cL_law 564 = .ok (.iconst 1, 1) := by decide +kernel
theorem dL_law_565 : decode cL_law 565 = .ok (.iadd, 1) := by decide +kernel
theorem dL_law_566 : decode cL_law 566 = .ok (.iaload, 1) := by decide +kernel
theorem dL_law_567 : decode cL_law 567 = .ok (.invokevirtual 62, 3) := by decide +kernel
theorem dL_law_570 : decode cL_law 570 = .ok (.if_icmp .eq 888, 3) := by decide +kernel
theorem dL_law_573 : decode cL_law 573 = .ok (.iconst 0, 1) := by decide +kernel
theorem dL_law_574 : decode cL_law 574 = .ok (.ireturn, 1) := by decide +kernel
theorem dL_law_575 : decode cL_law 575 = .ok (.aload_n 1, 1) := by decide +kernel
theorem dL_law_576 : decode cL_law 576 = .ok (.aload_n 0, 1) := by decide +kernel
theorem dL_law_577 : decode cL_law 577 = .ok (.iload_n 3, 1) := by decide +kernel
theorem dL_law_578 : decode cL_law 578 = .ok (.iconst 1, 1) := by decide +kernel
theorem dL_law_579 : decode cL_law 579 = .ok (.iadd, 1) := by decide +kernel
theorem dL_law_580 : decode cL_law 580 = .ok (.iaload, 1) := by decide +kernel
theorem dL_law_581 : decode cL_law 581 = .ok (.invokevirtual 63, 3) := by decide +kernel
theorem dL_law_584 : decode cL_law 584 = .ok (.aload_n 2, 1) := by decide +kernel
theorem dL_law_585 : decode cL_law 585 = .ok (.aload_n 0, 1) := by decide +kernel
theorem dL_law_586 : decode cL_law 586 = .ok (.iload_n 3, 1) := by decide +kernel
theorem dL_law_587 : decode cL_law 587 = .ok (.iconst 1, 1) := by decide +kernel
theorem dL_law_588 : decode cL_law 588 = .ok (.iadd, 1) := by decide +kernel
theorem dL_law_589 : decode cL_law 589 = .ok (.iaload, 1) := by decide +kernel
theorem dL_law_590 : decode cL_law 590 = .ok (.invokevirtual 66, 3) := by decide +kernel
theorem dL_law_593 : decode cL_law 593 = .ok (.if_icmp .eq 865, 3) := by decide +kernel
theorem dL_law_596 : decode cL_law 596 = .ok (.iconst 0, 1) := by decide +kernel
theorem dL_law_597 : decode cL_law 597 = .ok (.ireturn, 1) := by decide +kernel
theorem dL_law_598 : decode cL_law 598 = .ok (.aload_n 1, 1) := by decide +kernel
theorem dL_law_599 : decode cL_law 599 = .ok (.aload_n 0, 1) := by decide +kernel
theorem dL_law_600 : decode cL_law 600 = .ok (.iload_n 3, 1) := by decide +kernel
theorem dL_law_601 : decode cL_law 601 = .ok (.iconst 1, 1) := by decide +kernel
theorem dL_law_602 : decode cL_law 602 = .ok (.iadd, 1) := by decide +kernel
theorem dL_law_603 : decode cL_law 603 = .ok (.iaload, 1) := by decide +kernel
theorem dL_law_604 : decode cL_law 604 = .ok (.invokevirtual 67, 3) := by decide +kernel
theorem dL_law_607 : decode cL_law 607 = .ok (.aload_n 2, 1) := by decide +kernel
theorem dL_law_608 : decode cL_law 608 = .ok (.aload_n 0, 1) := by decide +kernel
theorem dL_law_609 : decode cL_law 609 = .ok (.iload_n 3, 1) := by decide +kernel
theorem dL_law_610 : decode cL_law 610 = .ok (.iconst 1, 1) := by decide +kernel
theorem dL_law_611 : decode cL_law 611 = .ok (.iadd, 1) := by decide +kernel
theorem dL_law_612 : decode cL_law 612 = .ok (.iaload, 1) := by decide +kernel
theorem dL_law_613 : decode cL_law 613 = .ok (.invokevirtual 70, 3) := by decide +kernel
theorem dL_law_616 : decode cL_law 616 = .ok (.if_icmp .eq 842, 3) := by decide +kernel
theorem dL_law_619 : decode cL_law 619 = .ok (.iconst 0, 1) := by decide +kernel
theorem dL_law_620 : decode cL_law 620 = .ok (.ireturn, 1) := by decide +kernel
theorem dL_law_621 : decode cL_law 621 = .ok (.aload_n 1, 1) := by decide +kernel
theorem dL_law_622 : decode cL_law 622 = .ok (.aload_n 0, 1) := by decide +kernel
theorem dL_law_623 : decode cL_law 623 = .ok (.iload_n 3, 1) := by decide +kernel
theorem dL_law_624 : decode cL_law 624 = .ok (.iconst 1, 1) := by decide +kernel
theorem dL_law_625 : decode cL_law 625 = .ok (.iadd, 1) := by decide +kernel
theorem dL_law_626 : decode cL_law 626 = .ok (.iaload, 1) := by decide +kernel
theorem dL_law_627 : decode cL_law 627 = .ok (.invokevirtual 71, 3) := by decide +kernel
theorem dL_law_630 : decode cL_law 630 = .ok (.aload_n 2, 1) := by decide +kernel
theorem dL_law_631 : decode cL_law 631 = .ok (.aload_n 0, 1) := by decide +kernel
theorem dL_law_632 : decode cL_law 632 = .ok (.iload_n 3, 1) := by decide +kernel
theorem dL_law_633 : decode cL_law 633 = .ok (.iconst 1, 1) := by decide +kernel
theorem dL_law_634 : decode cL_law 634 = .ok (.iadd, 1) := by decide +kernel
theorem dL_law_635 : decode cL_law 635 = .ok (.iaload, 1) := by decide +kernel
theorem dL_law_636 : decode cL_law 636 = .ok (.invokevirtual 74, 3) := by decide +kernel
theorem dL_law_639 : decode cL_law 639 = .ok (.if_icmp .eq 819, 3) := by decide +kernel
theorem dL_law_642 : decode cL_law 642 = .ok (.iconst 0, 1) := by decide +kernel
theorem dL_law_643 : decode cL_law 643 = .ok (.ireturn, 1) := by decide +kernel
theorem dL_law_644 : decode cL_law 644 = .ok (.aload_n 1, 1) := by decide +kernel
theorem dL_law_645 : decode cL_law 645 = .ok (.aload_n 0, 1) := by decide +kernel
theorem dL_law_646 : decode cL_law 646 = .ok (.iload_n 3, 1) := by decide +kernel
theorem dL_law_647 : decode cL_law 647 = .ok (.iconst 1, 1) := by decide +kernel
theorem dL_law_648 : decode cL_law 648 = .ok (.iadd, 1) := by decide +kernel
theorem dL_law_649 : decode cL_law 649 = .ok (.iaload, 1) := by decide +kernel
theorem dL_law_650 : decode cL_law 650 = .ok (.aload_n 0, 1) := by decide +kernel
theorem dL_law_651 : decode cL_law 651 = .ok (.iload_n 3, 1) := by decide +kernel
theorem dL_law_652 : decode cL_law 652 = .ok (.iconst 2, 1) := by decide +kernel
theorem dL_law_653 : decode cL_law 653 = .ok (.iadd, 1) := by decide +kernel
theorem dL_law_654 : decode cL_law 654 = .ok (.iaload, 1) := by decide +kernel
theorem dL_law_655 : decode cL_law 655 = .ok (.invokevirtual 75, 3) := by decide +kernel
theorem dL_law_658 : decode cL_law 658 = .ok (.aload_n 2, 1) := by decide +kernel
theorem dL_law_659 : decode cL_law 659 = .ok (.aload_n 0, 1) := by decide +kernel
theorem dL_law_660 : decode cL_law 660 = .ok (.iload_n 3, 1) := by decide +kernel
theorem dL_law_661 : decode cL_law 661 = .ok (.iconst 1, 1) := by decide +kernel
theorem dL_law_662 : decode cL_law 662 = .ok (.iadd, 1) := by decide +kernel
theorem dL_law_663 : decode cL_law 663 = .ok (.iaload, 1) := by decide +kernel
theorem dL_law_664 : decode cL_law 664 = .ok (.aload_n 0, 1) := by decide +kernel
theorem dL_law_665 : decode cL_law 665 = .ok (.iload_n 3, 1) := by decide +kernel
theorem dL_law_666 : decode cL_law 666 = .ok (.iconst 2, 1) := by decide +kernel
theorem dL_law_667 : decode cL_law 667 = .ok (.iadd, 1) := by decide +kernel
theorem dL_law_668 : decode cL_law 668 = .ok (.iaload, 1) := by decide +kernel
theorem dL_law_669 : decode cL_law 669 = .ok (.invokevirtual 78, 3) := by decide +kernel
theorem dL_law_672 : decode cL_law 672 = .ok (.if_icmp .eq 786, 3) := by decide +kernel
theorem dL_law_675 : decode cL_law 675 = .ok (.iconst 0, 1) := by decide +kernel
theorem dL_law_676 : decode cL_law 676 = .ok (.ireturn, 1) := by decide +kernel
theorem dL_law_677 : decode cL_law 677 = .ok (.aload_n 1, 1) := by decide +kernel
theorem dL_law_678 : decode cL_law 678 = .ok (.aload_n 0, 1) := by decide +kernel
theorem dL_law_679 : decode cL_law 679 = .ok (.iload_n 3, 1) := by decide +kernel
theorem dL_law_680 : decode cL_law 680 = .ok (.iconst 1, 1) := by decide +kernel
theorem dL_law_681 : decode cL_law 681 = .ok (.iadd, 1) := by decide +kernel
theorem dL_law_682 : decode cL_law 682 = .ok (.iaload, 1) := by decide +kernel
theorem dL_law_683 : decode cL_law 683 = .ok (.aload_n 0, 1) := by decide +kernel
theorem dL_law_684 : decode cL_law 684 = .ok (.iload_n 3, 1) := by decide +kernel
theorem dL_law_685 : decode cL_law 685 = .ok (.iconst 2, 1) := by decide +kernel
theorem dL_law_686 : decode cL_law 686 = .ok (.iadd, 1) := by decide +kernel
theorem dL_law_687 : decode cL_law 687 = .ok (.iaload, 1) := by decide +kernel
theorem dL_law_688 : decode cL_law 688 = .ok (.aload_n 0, 1) := by decide +kernel
theorem dL_law_689 : decode cL_law 689 = .ok (.iload_n 3, 1) := by decide +kernel
theorem dL_law_690 : decode cL_law 690 = .ok (.iconst 3, 1) := by decide +kernel
theorem dL_law_691 : decode cL_law 691 = .ok (.iadd, 1) := by decide +kernel
theorem dL_law_692 : decode cL_law 692 = .ok (.iaload, 1) := by decide +kernel
theorem dL_law_693 : decode cL_law 693 = .ok (.invokevirtual 79, 3) := by decide +kernel
theorem dL_law_696 : decode cL_law 696 = .ok (.aload_n 2, 1) := by decide +kernel
theorem dL_law_697 : decode cL_law 697 = .ok (.aload_n 0, 1) := by decide +kernel
theorem dL_law_698 : decode cL_law 698 = .ok (.iload_n 3, 1) := by decide +kernel
theorem dL_law_699 : decode cL_law 699 = .ok (.iconst 1, 1) := by decide +kernel
theorem dL_law_700 : decode cL_law 700 = .ok (.iadd, 1) := by decide +kernel
theorem dL_law_701 : decode cL_law 701 = .ok (.iaload, 1) := by decide +kernel
theorem dL_law_702 : decode cL_law 702 = .ok (.aload_n 0, 1) := by decide +kernel
theorem dL_law_703 : decode cL_law 703 = .ok (.iload_n 3, 1) := by decide +kernel
theorem dL_law_704 : decode cL_law 704 = .ok (.iconst 2, 1) := by decide +kernel
theorem dL_law_705 : decode cL_law 705 = .ok (.iadd, 1) := by decide +kernel
theorem dL_law_706 : decode cL_law 706 = .ok (.iaload, 1) := by decide +kernel
theorem dL_law_707 : decode cL_law 707 = .ok (.aload_n 0, 1) := by decide +kernel
theorem dL_law_708 : decode cL_law 708 = .ok (.iload_n 3, 1) := by decide +kernel
theorem dL_law_709 : decode cL_law 709 = .ok (.iconst 3, 1) := by decide +kernel
theorem dL_law_710 : decode cL_law 710 = .ok (.iadd, 1) := by decide +kernel
theorem dL_law_711 : decode cL_law 711 = .ok (.iaload, 1) := by decide +kernel
theorem dL_law_712 : decode cL_law 712 = .ok (.invokevirtual 82, 3) := by decide +kernel
theorem dL_law_715 : decode cL_law 715 = .ok (.if_icmp .eq 743, 3) := by decide +kernel
theorem dL_law_718 : decode cL_law 718 = .ok (.iconst 0, 1) := by decide +kernel
theorem dL_law_719 : decode cL_law 719 = .ok (.ireturn, 1) := by decide +kernel
theorem dL_law_720 : decode cL_law 720 = .ok (.aload_n 1, 1) := by decide +kernel
theorem dL_law_721 : decode cL_law 721 = .ok (.aload_n 0, 1) := by decide +kernel
theorem dL_law_722 : decode cL_law 722 = .ok (.iload_n 3, 1) := by decide +kernel
theorem dL_law_723 : decode cL_law 723 = .ok (.iconst 1, 1) := by decide +kernel
theorem dL_law_724 : decode cL_law 724 = .ok (.iadd, 1) := by decide +kernel
theorem dL_law_725 : decode cL_law 725 = .ok (.iaload, 1) := by decide +kernel
theorem dL_law_726 : decode cL_law 726 = .ok (.aload_n 0, 1) := by decide +kernel
theorem dL_law_727 : decode cL_law 727 = .ok (.iload_n 3, 1) := by decide +kernel
theorem dL_law_728 : decode cL_law 728 = .ok (.iconst 2, 1) := by decide +kernel
theorem dL_law_729 : decode cL_law 729 = .ok (.iadd, 1) := by decide +kernel
theorem dL_law_730 : decode cL_law 730 = .ok (.iaload, 1) := by decide +kernel
theorem dL_law_731 : decode cL_law 731 = .ok (.invokevirtual 83, 3) := by decide +kernel
theorem dL_law_734 : decode cL_law 734 = .ok (.aload_n 2, 1) := by decide +kernel
theorem dL_law_735 : decode cL_law 735 = .ok (.aload_n 0, 1) := by decide +kernel
theorem dL_law_736 : decode cL_law 736 = .ok (.iload_n 3, 1) := by decide +kernel
theorem dL_law_737 : decode cL_law 737 = .ok (.iconst 1, 1) := by decide +kernel
theorem dL_law_738 : decode cL_law 738 = .ok (.iadd, 1) := by decide +kernel
theorem dL_law_739 : decode cL_law 739 = .ok (.iaload, 1) := by decide +kernel
theorem dL_law_740 : decode cL_law 740 = .ok (.aload_n 0, 1) := by decide +kernel
theorem dL_law_741 : decode cL_law 741 = .ok (.iload_n 3, 1) := by decide +kernel
theorem dL_law_742 : decode cL_law 742 = .ok (.iconst 2, 1) := by decide +kernel
theorem dL_law_743 : decode cL_law 743 = .ok (.iadd, 1) := by decide +kernel
theorem dL_law_744 : decode cL_law 744 = .ok (.iaload, 1) := by decide +kernel
theorem dL_law_745 : decode cL_law 745 = .ok (.invokevirtual 86, 3) := by decide +kernel
theorem dL_law_748 : decode cL_law 748 = .ok (.if_icmp .eq 710, 3) := by decide +kernel
theorem dL_law_751 : decode cL_law 751 = .ok (.iconst 0, 1) := by decide +kernel
theorem dL_law_752 : decode cL_law 752 = .ok (.ireturn, 1) := by decide +kernel
theorem dL_law_753 : decode cL_law 753 = .ok (.aload_n 1, 1) := by decide +kernel
theorem dL_law_754 : decode cL_law 754 = .ok (.aload_n 0, 1) := by decide +kernel
theorem dL_law_755 : decode cL_law 755 = .ok (.iload_n 3, 1) := by decide +kernel
theorem dL_law_756 : decode cL_law 756 = .ok (.iconst 1, 1) := by decide +kernel
theorem dL_law_757 : decode cL_law 757 = .ok (.iadd, 1) := by decide +kernel
theorem dL_law_758 : decode cL_law 758 = .ok (.iaload, 1) := by decide +kernel
theorem dL_law_759 : decode cL_law 759 = .ok (.aload_n 0, 1) := by decide +kernel
theorem dL_law_760 : decode cL_law 760 = .ok (.iload_n 3, 1) := by decide +kernel
theorem dL_law_761 : decode cL_law 761 = .ok (.iconst 2, 1) := by decide +kernel
theorem dL_law_762 : decode cL_law 762 = .ok (.iadd, 1) := by decide +kernel
theorem dL_law_763 : decode cL_law 763 = .ok (.iaload, 1) := by decide +kernel
theorem dL_law_764 : decode cL_law 764 = .ok (.invokevirtual 87, 3) := by decide +kernel
theorem dL_law_767 : decode cL_law 767 = .ok (.aload_n 2, 1) := by decide +kernel
theorem dL_law_768 : decode cL_law 768 = .ok (.aload_n 0, 1) := by decide +kernel
theorem dL_law_769 : decode cL_law 769 = .ok (.iload_n 3, 1) := by decide +kernel
theorem dL_law_770 : decode cL_law 770 = .ok (.iconst 1, 1) := by decide +kernel
theorem dL_law_771 : decode cL_law 771 = .ok (.iadd, 1) := by decide +kernel
theorem dL_law_772 : decode cL_law 772 = .ok (.iaload, 1) := by decide +kernel
theorem dL_law_773 : decode cL_law 773 = .ok (.aload_n 0, 1) := by decide +kernel
theorem dL_law_774 : decode cL_law 774 = .ok (.iload_n 3, 1) := by decide +kernel
theorem dL_law_775 : decode cL_law 775 = .ok (.iconst 2, 1) := by decide +kernel
theorem dL_law_776 : decode cL_law 776 = .ok (.iadd, 1) := by decide +kernel
theorem dL_law_777 : decode cL_law 777 = .ok (.iaload, 1) := by decide +kernel
theorem dL_law_778 : decode cL_law 778 = .ok (.invokevirtual 90, 3) := by decide +kernel
theorem dL_law_781 : decode cL_law 781 = .ok (.if_icmp .eq 677, 3) := by decide +kernel
theorem dL_law_784 : decode cL_law 784 = .ok (.iconst 0, 1) := by decide +kernel
theorem dL_law_785 : decode cL_law 785 = .ok (.ireturn, 1) := by decide +kernel
theorem dL_law_786 : decode cL_law 786 = .ok (.aload_n 1, 1) := by decide +kernel
theorem dL_law_787 : decode cL_law 787 = .ok (.aload_n 0, 1) := by decide +kernel
theorem dL_law_788 : decode cL_law 788 = .ok (.iload_n 3, 1) := by decide +kernel
theorem dL_law_789 : decode cL_law 789 = .ok (.iconst 1, 1) := by decide +kernel
theorem dL_law_790 : decode cL_law 790 = .ok (.iadd, 1) := by decide +kernel
theorem dL_law_791 : decode cL_law 791 = .ok (.iaload, 1) := by decide +kernel
theorem dL_law_792 : decode cL_law 792 = .ok (.aload_n 0, 1) := by decide +kernel
theorem dL_law_793 : decode cL_law 793 = .ok (.iload_n 3, 1) := by decide +kernel
theorem dL_law_794 : decode cL_law 794 = .ok (.iconst 2, 1) := by decide +kernel
theorem dL_law_795 : decode cL_law 795 = .ok (.iadd, 1) := by decide +kernel
theorem dL_law_796 : decode cL_law 796 = .ok (.iaload, 1) := by decide +kernel
theorem dL_law_797 : decode cL_law 797 = .ok (.invokevirtual 91, 3) := by decide +kernel
theorem dL_law_800 : decode cL_law 800 = .ok (.aload_n 2, 1) := by decide +kernel
theorem dL_law_801 : decode cL_law 801 = .ok (.aload_n 0, 1) := by decide +kernel
theorem dL_law_802 : decode cL_law 802 = .ok (.iload_n 3, 1) := by decide +kernel
theorem dL_law_803 : decode cL_law 803 = .ok (.iconst 1, 1) := by decide +kernel
theorem dL_law_804 : decode cL_law 804 = .ok (.iadd, 1) := by decide +kernel
theorem dL_law_805 : decode cL_law 805 = .ok (.iaload, 1) := by decide +kernel
theorem dL_law_806 : decode cL_law 806 = .ok (.aload_n 0, 1) := by decide +kernel
theorem dL_law_807 : decode cL_law 807 = .ok (.iload_n 3, 1) := by decide +kernel
theorem dL_law_808 : decode cL_law 808 = .ok (.iconst 2, 1) := by decide +kernel
theorem dL_law_809 : decode cL_law 809 = .ok (.iadd, 1) := by decide +kernel
theorem dL_law_810 : decode cL_law 810 = .ok (.iaload, 1) := by decide +kernel
theorem dL_law_811 : decode cL_law 811 = .ok (.invokevirtual 94, 3) := by decide +kernel
theorem dL_law_814 : decode cL_law 814 = .ok (.if_icmp .eq 644, 3) := by decide +kernel
theorem dL_law_817 : decode cL_law 817 = .ok (.iconst 0, 1) := by decide +kernel
theorem dL_law_818 : decode cL_law 818 = .ok (.ireturn, 1) := by decide +kernel
theorem dL_law_819 : decode cL_law 819 = .ok (.aload_n 1, 1) := by decide +kernel
theorem dL_law_820 : decode cL_law 820 = .ok (.aload_n 0, 1) := by decide +kernel
theorem dL_law_821 : decode cL_law 821 = .ok (.iload_n 3, 1) := by decide +kernel
theorem dL_law_822 : decode cL_law 822 = .ok (.iconst 1, 1) := by decide +kernel
theorem dL_law_823 : decode cL_law 823 = .ok (.iadd, 1) := by decide +kernel
theorem dL_law_824 : decode cL_law 824 = .ok (.iaload, 1) := by decide +kernel
theorem dL_law_825 : decode cL_law 825 = .ok (.aload_n 0, 1) := by decide +kernel
theorem dL_law_826 : decode cL_law 826 = .ok (.iload_n 3, 1) := by decide +kernel
theorem dL_law_827 : decode cL_law 827 = .ok (.iconst 2, 1) := by decide +kernel
theorem dL_law_828 : decode cL_law 828 = .ok (.iadd, 1) := by decide +kernel
theorem dL_law_829 : decode cL_law 829 = .ok (.iaload, 1) := by decide +kernel
theorem dL_law_830 : decode cL_law 830 = .ok (.aload_n 0, 1) := by decide +kernel
theorem dL_law_831 : decode cL_law 831 = .ok (.iload_n 3, 1) := by decide +kernel
theorem dL_law_832 : decode cL_law 832 = .ok (.iconst 3, 1) := by decide +kernel
theorem dL_law_833 : decode cL_law 833 = .ok (.iadd, 1) := by decide +kernel
theorem dL_law_834 : decode cL_law 834 = .ok (.iaload, 1) := by decide +kernel
theorem dL_law_835 : decode cL_law 835 = .ok (.invokevirtual 95, 3) := by decide +kernel
theorem dL_law_838 : decode cL_law 838 = .ok (.aload_n 2, 1) := by decide +kernel
theorem dL_law_839 : decode cL_law 839 = .ok (.aload_n 0, 1) := by decide +kernel
theorem dL_law_840 : decode cL_law 840 = .ok (.iload_n 3, 1) := by decide +kernel
theorem dL_law_841 : decode cL_law 841 = .ok (.iconst 1, 1) := by decide +kernel
theorem dL_law_842 : decode cL_law 842 = .ok (.iadd, 1) := by decide +kernel
theorem dL_law_843 : decode cL_law 843 = .ok (.iaload, 1) := by decide +kernel
theorem dL_law_844 : decode cL_law 844 = .ok (.aload_n 0, 1) := by decide +kernel
theorem dL_law_845 : decode cL_law 845 = .ok (.iload_n 3, 1) := by decide +kernel
theorem dL_law_846 : decode cL_law 846 = .ok (.iconst 2, 1) := by decide +kernel
theorem dL_law_847 : decode cL_law 847 = .ok (.iadd, 1) := by decide +kernel
theorem dL_law_848 : decode cL_law 848 = .ok (.iaload, 1) := by decide +kernel
theorem dL_law_849 : decode cL_law 849 = .ok (.aload_n 0, 1) := by decide +kernel
theorem dL_law_850 : decode cL_law 850 = .ok (.iload_n 3, 1) := by decide +kernel
theorem dL_law_851 : decode cL_law 851 = .ok (.iconst 3, 1) := by decide +kernel
theorem dL_law_852 : decode cL_law 852 = .ok (.iadd, 1) := by decide +kernel
theorem dL_law_853 : decode cL_law 853 = .ok (.iaload, 1) := by decide +kernel
theorem dL_law_854 : decode cL_law 854 = .ok (.invokevirtual 98, 3) := by decide +kernel
theorem dL_law_857 : decode cL_law 857 = .ok (.if_icmp .eq 601, 3) := by decide +kernel
theorem dL_law_860 : decode cL_law 860 = .ok (.iconst 0, 1) := by decide +kernel
theorem dL_law_861 : decode cL_law 861 = .ok (.ireturn, 1) := by decide +kernel
theorem dL_law_862 : decode cL_law 862 = .ok (.aload_n 1, 1) := by decide +kernel
theorem dL_law_863 : decode cL_law 863 = .ok (.aload_n 0, 1) := by decide +kernel
theorem dL_law_864 : decode cL_law 864 = .ok (.iload_n 3, 1) := by decide +kernel
theorem dL_law_865 : decode cL_law 865 = .ok (.iconst 1, 1) := by decide +kernel
theorem dL_law_866 : decode cL_law 866 = .ok (.iadd, 1) := by decide +kernel
theorem dL_law_867 : decode cL_law 867 = .ok (.iaload, 1) := by decide +kernel
theorem dL_law_868 : decode cL_law 868 = .ok (.invokevirtual 99, 3) := by decide +kernel
theorem dL_law_871 : decode cL_law 871 = .ok (.aload_n 2, 1) := by decide +kernel
theorem dL_law_872 : decode cL_law 872 = .ok (.aload_n 0, 1) := by decide +kernel
theorem dL_law_873 : decode cL_law 873 = .ok (.iload_n 3, 1) := by decide +kernel
theorem dL_law_874 : decode cL_law 874 = .ok (.iconst 1, 1) := by decide +kernel
theorem dL_law_875 : decode cL_law 875 = .ok (.iadd, 1) := by decide +kernel
theorem dL_law_876 : decode cL_law 876 = .ok (.iaload, 1) := by decide +kernel
theorem dL_law_877 : decode cL_law 877 = .ok (.invokevirtual 102, 3) := by decide +kernel
theorem dL_law_880 : decode cL_law 880 = .ok (.if_icmp .eq 578, 3) := by decide +kernel
theorem dL_law_883 : decode cL_law 883 = .ok (.iconst 0, 1) := by decide +kernel
theorem dL_law_884 : decode cL_law 884 = .ok (.ireturn, 1) := by decide +kernel
theorem dL_law_885 : decode cL_law 885 = .ok (.aload_n 1, 1) := by decide +kernel
theorem dL_law_886 : decode cL_law 886 = .ok (.invokevirtual 103, 3) := by decide +kernel
theorem dL_law_889 : decode cL_law 889 = .ok (.aload_n 2, 1) := by decide +kernel
theorem dL_law_890 : decode cL_law 890 = .ok (.invokevirtual 106, 3) := by decide +kernel
theorem dL_law_893 : decode cL_law 893 = .ok (.if_icmp .eq 565, 3) := by decide +kernel
theorem dL_law_896 : decode cL_law 896 = .ok (.iconst 0, 1) := by decide +kernel
theorem dL_law_897 : decode cL_law 897 = .ok (.ireturn, 1) := by decide +kernel
theorem dL_law_898 : decode cL_law 898 = .ok (.aload_n 1, 1) := by decide +kernel
theorem dL_law_899 : decode cL_law 899 = .ok (.aload_n 0, 1) := by decide +kernel
theorem dL_law_900 : decode cL_law 900 = .ok (.iload_n 3, 1) := by decide +kernel
theorem dL_law_901 : decode cL_law 901 = .ok (.iconst 1, 1) := by decide +kernel
theorem dL_law_902 : decode cL_law 902 = .ok (.iadd, 1) := by decide +kernel
theorem dL_law_903 : decode cL_law 903 = .ok (.iaload, 1) := by decide +kernel
theorem dL_law_904 : decode cL_law 904 = .ok (.invokevirtual 107, 3) := by decide +kernel
theorem dL_law_907 : decode cL_law 907 = .ok (.aload_n 2, 1) := by decide +kernel
theorem dL_law_908 : decode cL_law 908 = .ok (.aload_n 0, 1) := by decide +kernel
theorem dL_law_909 : decode cL_law 909 = .ok (.iload_n 3, 1) := by decide +kernel
theorem dL_law_910 : decode cL_law 910 = .ok (.iconst 1, 1) := by decide +kernel
theorem dL_law_911 : decode cL_law 911 = .ok (.iadd, 1) := by decide +kernel
theorem dL_law_912 : decode cL_law 912 = .ok (.iaload, 1) := by decide +kernel
theorem dL_law_913 : decode cL_law 913 = .ok (.invokevirtual 110, 3) := by decide +kernel
theorem dL_law_916 : decode cL_law 916 = .ok (.if_icmp .eq 542, 3) := by decide +kernel
theorem dL_law_919 : decode cL_law 919 = .ok (.iconst 0, 1) := by decide +kernel
theorem dL_law_920 : decode cL_law 920 = .ok (.ireturn, 1) := by decide +kernel
theorem dL_law_921 : decode cL_law 921 = .ok (.aload_n 1, 1) := by decide +kernel
theorem dL_law_922 : decode cL_law 922 = .ok (.aload_n 0, 1) := by decide +kernel
theorem dL_law_923 : decode cL_law 923 = .ok (.iload_n 3, 1) := by decide +kernel
theorem dL_law_924 : decode cL_law 924 = .ok (.iconst 1, 1) := by decide +kernel
theorem dL_law_925 : decode cL_law 925 = .ok (.iadd, 1) := by decide +kernel
theorem dL_law_926 : decode cL_law 926 = .ok (.iaload, 1) := by decide +kernel
theorem dL_law_927 : decode cL_law 927 = .ok (.invokevirtual 111, 3) := by decide +kernel
theorem dL_law_930 : decode cL_law 930 = .ok (.aload_n 2, 1) := by decide +kernel
theorem dL_law_931 : decode cL_law 931 = .ok (.aload_n 0, 1) := by decide +kernel
theorem dL_law_932 : decode cL_law 932 = .ok (.iload_n 3, 1) := by decide +kernel
theorem dL_law_933 : decode cL_law 933 = .ok (.iconst 1, 1) := by decide +kernel
theorem dL_law_934 : decode cL_law 934 = .ok (.iadd, 1) := by decide +kernel
theorem dL_law_935 : decode cL_law 935 = .ok (.iaload, 1) := by decide +kernel
theorem dL_law_936 : decode cL_law 936 = .ok (.invokevirtual 114, 3) := by decide +kernel
theorem dL_law_939 : decode cL_law 939 = .ok (.if_icmp .eq 519, 3) := by decide +kernel
theorem dL_law_942 : decode cL_law 942 = .ok (.iconst 0, 1) := by decide +kernel
theorem dL_law_943 : decode cL_law 943 = .ok (.ireturn, 1) := by decide +kernel
theorem dL_law_944 : decode cL_law 944 = .ok (.aload_n 1, 1) := by decide +kernel
theorem dL_law_945 : decode cL_law 945 = .ok (.aload_n 0, 1) := by decide +kernel
theorem dL_law_946 : decode cL_law 946 = .ok (.iload_n 3, 1) := by decide +kernel
theorem dL_law_947 : decode cL_law 947 = .ok (.iconst 1, 1) := by decide +kernel
theorem dL_law_948 : decode cL_law 948 = .ok (.iadd, 1) := by decide +kernel
theorem dL_law_949 : decode cL_law 949 = .ok (.iaload, 1) := by decide +kernel
theorem dL_law_950 : decode cL_law 950 = .ok (.invokevirtual 115, 3) := by decide +kernel
theorem dL_law_953 : decode cL_law 953 = .ok (.aload_n 2, 1) := by decide +kernel
theorem dL_law_954 : decode cL_law 954 = .ok (.aload_n 0, 1) := by decide +kernel
theorem dL_law_955 : decode cL_law 955 = .ok (.iload_n 3, 1) := by decide +kernel
theorem dL_law_956 : decode cL_law 956 = .ok (.iconst 1, 1) := by decide +kernel
theorem dL_law_957 : decode cL_law 957 = .ok (.iadd, 1) := by decide +kernel
theorem dL_law_958 : decode cL_law 958 = .ok (.iaload, 1) := by decide +kernel
theorem dL_law_959 : decode cL_law 959 = .ok (.invokevirtual 118, 3) := by decide +kernel
theorem dL_law_962 : decode cL_law 962 = .ok (.if_icmp .eq 496, 3) := by decide +kernel
theorem dL_law_965 : decode cL_law 965 = .ok (.iconst 0, 1) := by decide +kernel
theorem dL_law_966 : decode cL_law 966 = .ok (.ireturn, 1) := by decide +kernel
theorem dL_law_967 : decode cL_law 967 = .ok (.aload_n 1, 1) := by decide +kernel
theorem dL_law_968 : decode cL_law 968 = .ok (.aload_n 0, 1) := by decide +kernel
theorem dL_law_969 : decode cL_law 969 = .ok (.iload_n 3, 1) := by decide +kernel
theorem dL_law_970 : decode cL_law 970 = .ok (.iconst 1, 1) := by decide +kernel
theorem dL_law_971 : decode cL_law 971 = .ok (.iadd, 1) := by decide +kernel
theorem dL_law_972 : decode cL_law 972 = .ok (.iaload, 1) := by decide +kernel
theorem dL_law_973 : decode cL_law 973 = .ok (.aload_n 0, 1) := by decide +kernel
theorem dL_law_974 : decode cL_law 974 = .ok (.iload_n 3, 1) := by decide +kernel
theorem dL_law_975 : decode cL_law 975 = .ok (.iconst 2, 1) := by decide +kernel
theorem dL_law_976 : decode cL_law 976 = .ok (.iadd, 1) := by decide +kernel
theorem dL_law_977 : decode cL_law 977 = .ok (.iaload, 1) := by decide +kernel
theorem dL_law_978 : decode cL_law 978 = .ok (.aload_n 0, 1) := by decide +kernel
theorem dL_law_979 : decode cL_law 979 = .ok (.iload_n 3, 1) := by decide +kernel
theorem dL_law_980 : decode cL_law 980 = .ok (.iconst 3, 1) := by decide +kernel
theorem dL_law_981 : decode cL_law 981 = .ok (.iadd, 1) := by decide +kernel
theorem dL_law_982 : decode cL_law 982 = .ok (.iaload, 1) := by decide +kernel
theorem dL_law_983 : decode cL_law 983 = .ok (.invokevirtual 119, 3) := by decide +kernel
theorem dL_law_986 : decode cL_law 986 = .ok (.aload_n 2, 1) := by decide +kernel
theorem dL_law_987 : decode cL_law 987 = .ok (.aload_n 0, 1) := by decide +kernel
theorem dL_law_988 : decode cL_law 988 = .ok (.iload_n 3, 1) := by decide +kernel
theorem dL_law_989 : decode cL_law 989 = .ok (.iconst 1, 1) := by decide +kernel
theorem dL_law_990 : decode cL_law 990 = .ok (.iadd, 1) := by decide +kernel
theorem dL_law_991 : decode cL_law 991 = .ok (.iaload, 1) := by decide +kernel
theorem dL_law_992 : decode cL_law 992 = .ok (.aload_n 0, 1) := by decide +kernel
theorem dL_law_993 : decode cL_law 993 = .ok (.iload_n 3, 1) := by decide +kernel
theorem dL_law_994 : decode cL_law 994 = .ok (.iconst 2, 1) := by decide +kernel
theorem dL_law_995 : decode cL_law 995 = .ok (.iadd, 1) := by decide +kernel
theorem dL_law_996 : decode cL_law 996 = .ok (.iaload, 1) := by decide +kernel
theorem dL_law_997 : decode cL_law 997 = .ok (.aload_n 0, 1) := by decide +kernel
theorem dL_law_998 : decode cL_law 998 = .ok (.iload_n 3, 1) := by decide +kernel
theorem dL_law_999 : decode cL_law 999 = .ok (.iconst 3, 1) := by decide +kernel
theorem dL_law_1000 : decode cL_law 1000 = .ok (.iadd, 1) := by decide +kernel
theorem dL_law_1001 : decode cL_law 1001 = .ok (.iaload, 1) := by decide +kernel
theorem dL_law_1002 : decode cL_law 1002 = .ok (.invokevirtual 122, 3) := by decide +kernel
theorem dL_law_1005 : decode cL_law 1005 = .ok (.if_icmp .eq 453, 3) := by decide +kernel
theorem dL_law_1008 : decode cL_law 1008 = .ok (.iconst 0, 1) := by decide +kernel
theorem dL_law_1009 : decode cL_law 1009 = .ok (.ireturn, 1) := by decide +kernel
theorem dL_law_1010 : decode cL_law 1010 = .ok (.aload_n 1, 1) := by decide +kernel
theorem dL_law_1011 : decode cL_law 1011 = .ok (.aload_n 0, 1) := by decide +kernel
theorem dL_law_1012 : decode cL_law 1012 = .ok (.iload_n 3, 1) := by decide +kernel
theorem dL_law_1013 : decode cL_law 1013 = .ok (.iconst 1, 1) := by decide +kernel
theorem dL_law_1014 : decode cL_law 1014 = .ok (.iadd, 1) := by decide +kernel
theorem dL_law_1015 : decode cL_law 1015 = .ok (.iaload, 1) := by decide +kernel
theorem dL_law_1016 : decode cL_law 1016 = .ok (.invokevirtual 123, 3) := by decide +kernel
theorem dL_law_1019 : decode cL_law 1019 = .ok (.aload_n 2, 1) := by decide +kernel
theorem dL_law_1020 : decode cL_law 1020 = .ok (.aload_n 0, 1) := by decide +kernel
theorem dL_law_1021 : decode cL_law 1021 = .ok (.iload_n 3, 1) := by decide +kernel
theorem dL_law_1022 : decode cL_law 1022 = .ok (.iconst 1, 1) := by decide +kernel
theorem dL_law_1023 : decode cL_law 1023 = .ok (.iadd, 1) := by decide +kernel
theorem dL_law_1024 : decode cL_law 1024 = .ok (.iaload, 1) := by decide +kernel
theorem dL_law_1025 : decode cL_law 1025 = .ok (.invokevirtual 126, 3) := by decide +kernel
theorem dL_law_1028 : decode cL_law 1028 = .ok (.if_icmp .eq 430, 3) := by decide +kernel
theorem dL_law_1031 : decode cL_law 1031 = .ok (.iconst 0, 1) := by decide +kernel
theorem dL_law_1032 : decode cL_law 1032 = .ok (.ireturn, 1) := by decide +kernel
theorem dL_law_1033 : decode cL_law 1033 = .ok (.aload_n 1, 1) := by decide +kernel
theorem dL_law_1034 : decode cL_law 1034 = .ok (.aload_n 0, 1) := by decide +kernel
theorem dL_law_1035 : decode cL_law 1035 = .ok (.iload_n 3, 1) := by decide +kernel
theorem dL_law_1036 : decode cL_law 1036 = .ok (.iconst 1, 1) := by decide +kernel
theorem dL_law_1037 : decode cL_law 1037 = .ok (.iadd, 1) := by decide +kernel
theorem dL_law_1038 : decode cL_law 1038 = .ok (.iaload, 1) := by decide +kernel
theorem dL_law_1039 : decode cL_law 1039 = .ok (.invokevirtual 127, 3) := by decide +kernel
theorem dL_law_1042 : decode cL_law 1042 = .ok (.aload_n 2, 1) := by decide +kernel
theorem dL_law_1043 : decode cL_law 1043 = .ok (.aload_n 0, 1) := by decide +kernel
theorem dL_law_1044 : decode cL_law 1044 = .ok (.iload_n 3, 1) := by decide +kernel
theorem dL_law_1045 : decode cL_law 1045 = .ok (.iconst 1, 1) := by decide +kernel
theorem dL_law_1046 : decode cL_law 1046 = .ok (.iadd, 1) := by decide +kernel
theorem dL_law_1047 : decode cL_law 1047 = .ok (.iaload, 1) := by decide +kernel
theorem dL_law_1048 : decode cL_law 1048 = .ok (.invokevirtual 130, 3) := by decide +kernel
theorem dL_law_1051 : decode cL_law 1051 = .ok (.if_icmp .eq 407, 3) := by decide +kernel
theorem dL_law_1054 : decode cL_law 1054 = .ok (.iconst 0, 1) := by decide +kernel
theorem dL_law_1055 : decode cL_law 1055 = .ok (.ireturn, 1) := by decide +kernel
theorem dL_law_1056 : decode cL_law 1056 = .ok (.aload_n 1, 1) := by decide +kernel
theorem dL_law_1057 : decode cL_law 1057 = .ok (.aload_n 0, 1) := by decide +kernel
theorem dL_law_1058 : decode cL_law 1058 = .ok (.iload_n 3, 1) := by decide +kernel
theorem dL_law_1059 : decode cL_law 1059 = .ok (.iconst 1, 1) := by decide +kernel
theorem dL_law_1060 : decode cL_law 1060 = .ok (.iadd, 1) := by decide +kernel
theorem dL_law_1061 : decode cL_law 1061 = .ok (.iaload, 1) := by decide +kernel
theorem dL_law_1062 : decode cL_law 1062 = .ok (.aload_n 0, 1) := by decide +kernel
theorem dL_law_1063 : decode cL_law 1063 = .ok (.iload_n 3, 1) := by decide +kernel
theorem dL_law_1064 : decode cL_law 1064 = .ok (.iconst 2, 1) := by decide +kernel
theorem dL_law_1065 : decode cL_law 1065 = .ok (.iadd, 1) := by decide +kernel
theorem dL_law_1066 : decode cL_law 1066 = .ok (.iaload, 1) := by decide +kernel
theorem dL_law_1067 : decode cL_law 1067 = .ok (.invokevirtual 131, 3) := by decide +kernel
theorem dL_law_1070 : decode cL_law 1070 = .ok (.aload_n 2, 1) := by decide +kernel
theorem dL_law_1071 : decode cL_law 1071 = .ok (.aload_n 0, 1) := by decide +kernel
theorem dL_law_1072 : decode cL_law 1072 = .ok (.iload_n 3, 1) := by decide +kernel
theorem dL_law_1073 : decode cL_law 1073 = .ok (.iconst 1, 1) := by decide +kernel
theorem dL_law_1074 : decode cL_law 1074 = .ok (.iadd, 1) := by decide +kernel
theorem dL_law_1075 : decode cL_law 1075 = .ok (.iaload, 1) := by decide +kernel
theorem dL_law_1076 : decode cL_law 1076 = .ok (.aload_n 0, 1) := by decide +kernel
theorem dL_law_1077 : decode cL_law 1077 = .ok (.iload_n 3, 1) := by decide +kernel
theorem dL_law_1078 : decode cL_law 1078 = .ok (.iconst 2, 1) := by decide +kernel
theorem dL_law_1079 : decode cL_law 1079 = .ok (.iadd, 1) := by decide +kernel
theorem dL_law_1080 : decode cL_law 1080 = .ok (.iaload, 1) := by decide +kernel
theorem dL_law_1081 : decode cL_law 1081 = .ok (.invokevirtual 134, 3) := by decide +kernel
theorem dL_law_1084 : decode cL_law 1084 = .ok (.if_icmp .eq 374, 3) := by decide +kernel
theorem dL_law_1087 : decode cL_law 1087 = .ok (.iconst 0, 1) := by decide +kernel
theorem dL_law_1088 : decode cL_law 1088 = .ok (.ireturn, 1) := by decide +kernel
theorem dL_law_1089 : decode cL_law 1089 = .ok (.aload_n 1, 1) := by decide +kernel
theorem dL_law_1090 : decode cL_law 1090 = .ok (.aload_n 0, 1) := by decide +kernel
theorem dL_law_1091 : decode cL_law 1091 = .ok (.iload_n 3, 1) := by decide +kernel
theorem dL_law_1092 : decode cL_law 1092 = .ok (.iconst 1, 1) := by decide +kernel
theorem dL_law_1093 : decode cL_law 1093 = .ok (.iadd, 1) := by decide +kernel
theorem dL_law_1094 : decode cL_law 1094 = .ok (.iaload, 1) := by decide +kernel
theorem dL_law_1095 : decode cL_law 1095 = .ok (.aload_n 0, 1) := by decide +kernel
theorem dL_law_1096 : decode cL_law 1096 = .ok (.iload_n 3, 1) := by decide +kernel
theorem dL_law_1097 : decode cL_law 1097 = .ok (.iconst 2, 1) := by decide +kernel
theorem dL_law_1098 : decode cL_law 1098 = .ok (.iadd, 1) := by decide +kernel
theorem dL_law_1099 : decode cL_law 1099 = .ok (.iaload, 1) := by decide +kernel
theorem dL_law_1100 : decode cL_law 1100 = .ok (.aload_n 0, 1) := by decide +kernel
theorem dL_law_1101 : decode cL_law 1101 = .ok (.iload_n 3, 1) := by decide +kernel
theorem dL_law_1102 : decode cL_law 1102 = .ok (.iconst 3, 1) := by decide +kernel
theorem dL_law_1103 : decode cL_law 1103 = .ok (.iadd, 1) := by decide +kernel
theorem dL_law_1104 : decode cL_law 1104 = .ok (.iaload, 1) := by decide +kernel
theorem dL_law_1105 : decode cL_law 1105 = .ok (.invokevirtual 135, 3) := by decide +kernel
theorem dL_law_1108 : decode cL_law 1108 = .ok (.aload_n 2, 1) := by decide +kernel
theorem dL_law_1109 : decode cL_law 1109 = .ok (.aload_n 0, 1) := by decide +kernel
theorem dL_law_1110 : decode cL_law 1110 = .ok (.iload_n 3, 1) := by decide +kernel
theorem dL_law_1111 : decode cL_law 1111 = .ok (.iconst 1, 1) := by decide +kernel
theorem dL_law_1112 : decode cL_law 1112 = .ok (.iadd, 1) := by decide +kernel
theorem dL_law_1113 : decode cL_law 1113 = .ok (.iaload, 1) := by decide +kernel
theorem dL_law_1114 : decode cL_law 1114 = .ok (.aload_n 0, 1) := by decide +kernel
theorem dL_law_1115 : decode cL_law 1115 = .ok (.iload_n 3, 1) := by decide +kernel
theorem dL_law_1116 : decode cL_law 1116 = .ok (.iconst 2, 1) := by decide +kernel
theorem dL_law_1117 : decode cL_law 1117 = .ok (.iadd, 1) := by decide +kernel
theorem dL_law_1118 : decode cL_law 1118 = .ok (.iaload, 1) := by decide +kernel
theorem dL_law_1119 : decode cL_law 1119 = .ok (.aload_n 0, 1) := by decide +kernel
theorem dL_law_1120 : decode cL_law 1120 = .ok (.iload_n 3, 1) := by decide +kernel
theorem dL_law_1121 : decode cL_law 1121 = .ok (.iconst 3, 1) := by decide +kernel
theorem dL_law_1122 : decode cL_law 1122 = .ok (.iadd, 1) := by decide +kernel
theorem dL_law_1123 : decode cL_law 1123 = .ok (.iaload, 1) := by decide +kernel
theorem dL_law_1124 : decode cL_law 1124 = .ok (.invokevirtual 138, 3) := by decide +kernel
theorem dL_law_1127 : decode cL_law 1127 = .ok (.if_icmp .eq 331, 3) := by decide +kernel
theorem dL_law_1130 : decode cL_law 1130 = .ok (.iconst 0, 1) := by decide +kernel
theorem dL_law_1131 : decode cL_law 1131 = .ok (.ireturn, 1) := by decide +kernel
theorem dL_law_1132 : decode cL_law 1132 = .ok (.aload_n 1, 1) := by decide +kernel
theorem dL_law_1133 : decode cL_law 1133 = .ok (.aload_n 0, 1) := by decide +kernel
theorem dL_law_1134 : decode cL_law 1134 = .ok (.iload_n 3, 1) := by decide +kernel
theorem dL_law_1135 : decode cL_law 1135 = .ok (.iconst 1, 1) := by decide +kernel
theorem dL_law_1136 : decode cL_law 1136 = .ok (.iadd, 1) := by decide +kernel
theorem dL_law_1137 : decode cL_law 1137 = .ok (.iaload, 1) := by decide +kernel
theorem dL_law_1138 : decode cL_law 1138 = .ok (.aload_n 0, 1) := by decide +kernel
theorem dL_law_1139 : decode cL_law 1139 = .ok (.iload_n 3, 1) := by decide +kernel
theorem dL_law_1140 : decode cL_law 1140 = .ok (.iconst 2, 1) := by decide +kernel
theorem dL_law_1141 : decode cL_law 1141 = .ok (.iadd, 1) := by decide +kernel
theorem dL_law_1142 : decode cL_law 1142 = .ok (.iaload, 1) := by decide +kernel
theorem dL_law_1143 : decode cL_law 1143 = .ok (.aload_n 0, 1) := by decide +kernel
theorem dL_law_1144 : decode cL_law 1144 = .ok (.iload_n 3, 1) := by decide +kernel
theorem dL_law_1145 : decode cL_law 1145 = .ok (.iconst 3, 1) := by decide +kernel
theorem dL_law_1146 : decode cL_law 1146 = .ok (.iadd, 1) := by decide +kernel
theorem dL_law_1147 : decode cL_law 1147 = .ok (.iaload, 1) := by decide +kernel
theorem dL_law_1148 : decode cL_law 1148 = .ok (.aload_n 0, 1) := by decide +kernel
theorem dL_law_1149 : decode cL_law 1149 = .ok (.iload_n 3, 1) := by decide +kernel
theorem dL_law_1150 : decode cL_law 1150 = .ok (.iconst 4, 1) := by decide +kernel
theorem dL_law_1151 : decode cL_law 1151 = .ok (.iadd, 1) := by decide +kernel
theorem dL_law_1152 : decode cL_law 1152 = .ok (.iaload, 1) := by decide +kernel
theorem dL_law_1153 : decode cL_law 1153 = .ok (.aload_n 0, 1) := by decide +kernel
theorem dL_law_1154 : decode cL_law 1154 = .ok (.iload_n 3, 1) := by decide +kernel
theorem dL_law_1155 : decode cL_law 1155 = .ok (.iconst 5, 1) := by decide +kernel
theorem dL_law_1156 : decode cL_law 1156 = .ok (.iadd, 1) := by decide +kernel
theorem dL_law_1157 : decode cL_law 1157 = .ok (.iaload, 1) := by decide +kernel
theorem dL_law_1158 : decode cL_law 1158 = .ok (.invokevirtual 139, 3) := by decide +kernel
theorem dL_law_1161 : decode cL_law 1161 = .ok (.aload_n 2, 1) := by decide +kernel
theorem dL_law_1162 : decode cL_law 1162 = .ok (.aload_n 0, 1) := by decide +kernel
theorem dL_law_1163 : decode cL_law 1163 = .ok (.iload_n 3, 1) := by decide +kernel
theorem dL_law_1164 : decode cL_law 1164 = .ok (.iconst 1, 1) := by decide +kernel
theorem dL_law_1165 : decode cL_law 1165 = .ok (.iadd, 1) := by decide +kernel
theorem dL_law_1166 : decode cL_law 1166 = .ok (.iaload, 1) := by decide +kernel
theorem dL_law_1167 : decode cL_law 1167 = .ok (.aload_n 0, 1) := by decide +kernel
theorem dL_law_1168 : decode cL_law 1168 = .ok (.iload_n 3, 1) := by decide +kernel
theorem dL_law_1169 : decode cL_law 1169 = .ok (.iconst 2, 1) := by decide +kernel
theorem dL_law_1170 : decode cL_law 1170 = .ok (.iadd, 1) := by decide +kernel
theorem dL_law_1171 : decode cL_law 1171 = .ok (.iaload, 1) := by decide +kernel
theorem dL_law_1172 : decode cL_law 1172 = .ok (.aload_n 0, 1) := by decide +kernel
theorem dL_law_1173 : decode cL_law 1173 = .ok (.iload_n 3, 1) := by decide +kernel
theorem dL_law_1174 : decode cL_law 1174 = .ok (.iconst 3, 1) := by decide +kernel
theorem dL_law_1175 : decode cL_law 1175 = .ok (.iadd, 1) := by decide +kernel
theorem dL_law_1176 : decode cL_law 1176 = .ok (.iaload, 1) := by decide +kernel
theorem dL_law_1177 : decode cL_law 1177 = .ok (.aload_n 0, 1) := by decide +kernel
theorem dL_law_1178 : decode cL_law 1178 = .ok (.iload_n 3, 1) := by decide +kernel
theorem dL_law_1179 : decode cL_law 1179 = .ok (.iconst 4, 1) := by decide +kernel
theorem dL_law_1180 : decode cL_law 1180 = .ok (.iadd, 1) := by decide +kernel
theorem dL_law_1181 : decode cL_law 1181 = .ok (.iaload, 1) := by decide +kernel
theorem dL_law_1182 : decode cL_law 1182 = .ok (.aload_n 0, 1) := by decide +kernel
theorem dL_law_1183 : decode cL_law 1183 = .ok (.iload_n 3, 1) := by decide +kernel
theorem dL_law_1184 : decode cL_law 1184 = .ok (.iconst 5, 1) := by decide +kernel
theorem dL_law_1185 : decode cL_law 1185 = .ok (.iadd, 1) := by decide +kernel
theorem dL_law_1186 : decode cL_law 1186 = .ok (.iaload, 1) := by decide +kernel
theorem dL_law_1187 : decode cL_law 1187 = .ok (.invokevirtual 143, 3) := by decide +kernel
theorem dL_law_1190 : decode cL_law 1190 = .ok (.lcmp, 1) := by decide +kernel
theorem dL_law_1191 : decode cL_law 1191 = .ok (.ifCond .eq 267, 3) := by decide +kernel
theorem dL_law_1194 : decode cL_law 1194 = .ok (.iconst 0, 1) := by decide +kernel
theorem dL_law_1195 : decode cL_law 1195 = .ok (.ireturn, 1) := by decide +kernel
theorem dL_law_1196 : decode cL_law 1196 = .ok (.aload_n 1, 1) := by decide +kernel
theorem dL_law_1197 : decode cL_law 1197 = .ok (.invokevirtual 144, 3) := by decide +kernel
theorem dL_law_1200 : decode cL_law 1200 = .ok (.aload_n 2, 1) := by decide +kernel
theorem dL_law_1201 : decode cL_law 1201 = .ok (.invokevirtual 147, 3) := by decide +kernel
theorem dL_law_1204 : decode cL_law 1204 = .ok (.if_icmp .eq 254, 3) := by decide +kernel
theorem dL_law_1207 : decode cL_law 1207 = .ok (.iconst 0, 1) := by decide +kernel
theorem dL_law_1208 : decode cL_law 1208 = .ok (.ireturn, 1) := by decide +kernel
theorem dL_law_1209 : decode cL_law 1209 = .ok (.aload_n 1, 1) := by decide +kernel
theorem dL_law_1210 : decode cL_law 1210 = .ok (.invokevirtual 148, 3) := by decide +kernel
theorem dL_law_1213 : decode cL_law 1213 = .ok (.aload_n 2, 1) := by decide +kernel
theorem dL_law_1214 : decode cL_law 1214 = .ok (.invokevirtual 151, 3) := by decide +kernel
theorem dL_law_1217 : decode cL_law 1217 = .ok (.if_icmp .eq 241, 3) := by decide +kernel
theorem dL_law_1220 : decode cL_law 1220 = .ok (.iconst 0, 1) := by decide +kernel
theorem dL_law_1221 : decode cL_law 1221 = .ok (.ireturn, 1) := by decide +kernel
theorem dL_law_1222 : decode cL_law 1222 = .ok (.aload_n 1, 1) := by decide +kernel
theorem dL_law_1223 : decode cL_law 1223 = .ok (.aload_n 0, 1) := by decide +kernel
theorem dL_law_1224 : decode cL_law 1224 = .ok (.iload_n 3, 1) := by decide +kernel
theorem dL_law_1225 : decode cL_law 1225 = .ok (.iconst 1, 1) := by decide +kernel
theorem dL_law_1226 : decode cL_law 1226 = .ok (.iadd, 1) := by decide +kernel
theorem dL_law_1227 : decode cL_law 1227 = .ok (.iaload, 1) := by decide +kernel
theorem dL_law_1228 : decode cL_law 1228 = .ok (.aload_n 0, 1) := by decide +kernel
theorem dL_law_1229 : decode cL_law 1229 = .ok (.iload_n 3, 1) := by decide +kernel
theorem dL_law_1230 : decode cL_law 1230 = .ok (.iconst 2, 1) := by decide +kernel
theorem dL_law_1231 : decode cL_law 1231 = .ok (.iadd, 1) := by decide +kernel
theorem dL_law_1232 : decode cL_law 1232 = .ok (.iaload, 1) := by decide +kernel
theorem dL_law_1233 : decode cL_law 1233 = .ok (.aload_n 0, 1) := by decide +kernel
theorem dL_law_1234 : decode cL_law 1234 = .ok (.iload_n 3, 1) := by decide +kernel
theorem dL_law_1235 : decode cL_law 1235 = .ok (.iconst 3, 1) := by decide +kernel
theorem dL_law_1236 : decode cL_law 1236 = .ok (.iadd, 1) := by decide +kernel
theorem dL_law_1237 : decode cL_law 1237 = .ok (.iaload, 1) := by decide +kernel
theorem dL_law_1238 : decode cL_law 1238 = .ok (.invokevirtual 152, 3) := by decide +kernel
theorem dL_law_1241 : decode cL_law 1241 = .ok (.aload_n 2, 1) := by decide +kernel
theorem dL_law_1242 : decode cL_law 1242 = .ok (.aload_n 0, 1) := by decide +kernel
theorem dL_law_1243 : decode cL_law 1243 = .ok (.iload_n 3, 1) := by decide +kernel
theorem dL_law_1244 : decode cL_law 1244 = .ok (.iconst 1, 1) := by decide +kernel
theorem dL_law_1245 : decode cL_law 1245 = .ok (.iadd, 1) := by decide +kernel
theorem dL_law_1246 : decode cL_law 1246 = .ok (.iaload, 1) := by decide +kernel
theorem dL_law_1247 : decode cL_law 1247 = .ok (.aload_n 0, 1) := by decide +kernel
theorem dL_law_1248 : decode cL_law 1248 = .ok (.iload_n 3, 1) := by decide +kernel
theorem dL_law_1249 : decode cL_law 1249 = .ok (.iconst 2, 1) := by decide +kernel
theorem dL_law_1250 : decode cL_law 1250 = .ok (.iadd, 1) := by decide +kernel
theorem dL_law_1251 : decode cL_law 1251 = .ok (.iaload, 1) := by decide +kernel
theorem dL_law_1252 : decode cL_law 1252 = .ok (.aload_n 0, 1) := by decide +kernel
theorem dL_law_1253 : decode cL_law 1253 = .ok (.iload_n 3, 1) := by decide +kernel
theorem dL_law_1254 : decode cL_law 1254 = .ok (.iconst 3, 1) := by decide +kernel
theorem dL_law_1255 : decode cL_law 1255 = .ok (.iadd, 1) := by decide +kernel
theorem dL_law_1256 : decode cL_law 1256 = .ok (.iaload, 1) := by decide +kernel
theorem dL_law_1257 : decode cL_law 1257 = .ok (.invokevirtual 155, 3) := by decide +kernel
theorem dL_law_1260 : decode cL_law 1260 = .ok (.if_icmp .eq 198, 3) := by decide +kernel
theorem dL_law_1263 : decode cL_law 1263 = .ok (.iconst 0, 1) := by decide +kernel
theorem dL_law_1264 : decode cL_law 1264 = .ok (.ireturn, 1) := by decide +kernel
theorem dL_law_1265 : decode cL_law 1265 = .ok (.aload_n 1, 1) := by decide +kernel
theorem dL_law_1266 : decode cL_law 1266 = .ok (.aload_n 0, 1) := by decide +kernel
theorem dL_law_1267 : decode cL_law 1267 = .ok (.iload_n 3, 1) := by decide +kernel
theorem dL_law_1268 : decode cL_law 1268 = .ok (.iconst 1, 1) := by decide +kernel
theorem dL_law_1269 : decode cL_law 1269 = .ok (.iadd, 1) := by decide +kernel
theorem dL_law_1270 : decode cL_law 1270 = .ok (.iaload, 1) := by decide +kernel
theorem dL_law_1271 : decode cL_law 1271 = .ok (.aload_n 0, 1) := by decide +kernel
theorem dL_law_1272 : decode cL_law 1272 = .ok (.iload_n 3, 1) := by decide +kernel
theorem dL_law_1273 : decode cL_law 1273 = .ok (.iconst 2, 1) := by decide +kernel
theorem dL_law_1274 : decode cL_law 1274 = .ok (.iadd, 1) := by decide +kernel
theorem dL_law_1275 : decode cL_law 1275 = .ok (.iaload, 1) := by decide +kernel
theorem dL_law_1276 : decode cL_law 1276 = .ok (.aload_n 0, 1) := by decide +kernel
theorem dL_law_1277 : decode cL_law 1277 = .ok (.iload_n 3, 1) := by decide +kernel
theorem dL_law_1278 : decode cL_law 1278 = .ok (.iconst 3, 1) := by decide +kernel
theorem dL_law_1279 : decode cL_law 1279 = .ok (.iadd, 1) := by decide +kernel
theorem dL_law_1280 : decode cL_law 1280 = .ok (.iaload, 1) := by decide +kernel
theorem dL_law_1281 : decode cL_law 1281 = .ok (.invokevirtual 156, 3) := by decide +kernel
theorem dL_law_1284 : decode cL_law 1284 = .ok (.aload_n 2, 1) := by decide +kernel
theorem dL_law_1285 : decode cL_law 1285 = .ok (.aload_n 0, 1) := by decide +kernel
theorem dL_law_1286 : decode cL_law 1286 = .ok (.iload_n 3, 1) := by decide +kernel
theorem dL_law_1287 : decode cL_law 1287 = .ok (.iconst 1, 1) := by decide +kernel
theorem dL_law_1288 : decode cL_law 1288 = .ok (.iadd, 1) := by decide +kernel
theorem dL_law_1289 : decode cL_law 1289 = .ok (.iaload, 1) := by decide +kernel
theorem dL_law_1290 : decode cL_law 1290 = .ok (.aload_n 0, 1) := by decide +kernel
theorem dL_law_1291 : decode cL_law 1291 = .ok (.iload_n 3, 1) := by decide +kernel
theorem dL_law_1292 : decode cL_law 1292 = .ok (.iconst 2, 1) := by decide +kernel
theorem dL_law_1293 : decode cL_law 1293 = .ok (.iadd, 1) := by decide +kernel
theorem dL_law_1294 : decode cL_law 1294 = .ok (.iaload, 1) := by decide +kernel
theorem dL_law_1295 : decode cL_law 1295 = .ok (.aload_n 0, 1) := by decide +kernel
theorem dL_law_1296 : decode cL_law 1296 = .ok (.iload_n 3, 1) := by decide +kernel
theorem dL_law_1297 : decode cL_law 1297 = .ok (.iconst 3, 1) := by decide +kernel
theorem dL_law_1298 : decode cL_law 1298 = .ok (.iadd, 1) := by decide +kernel
theorem dL_law_1299 : decode cL_law 1299 = .ok (.iaload, 1) := by decide +kernel
theorem dL_law_1300 : decode cL_law 1300 = .ok (.invokevirtual 159, 3) := by decide +kernel
theorem dL_law_1303 : decode cL_law 1303 = .ok (.if_icmp .eq 155, 3) := by decide +kernel
theorem dL_law_1306 : decode cL_law 1306 = .ok (.iconst 0, 1) := by decide +kernel
theorem dL_law_1307 : decode cL_law 1307 = .ok (.ireturn, 1) := by decide +kernel
theorem dL_law_1308 : decode cL_law 1308 = .ok (.aload_n 1, 1) := by decide +kernel
theorem dL_law_1309 : decode cL_law 1309 = .ok (.aload_n 0, 1) := by decide +kernel
theorem dL_law_1310 : decode cL_law 1310 = .ok (.iload_n 3, 1) := by decide +kernel
theorem dL_law_1311 : decode cL_law 1311 = .ok (.iconst 1, 1) := by decide +kernel
theorem dL_law_1312 : decode cL_law 1312 = .ok (.iadd, 1) := by decide +kernel
theorem dL_law_1313 : decode cL_law 1313 = .ok (.iaload, 1) := by decide +kernel
theorem dL_law_1314 : decode cL_law 1314 = .ok (.aload_n 0, 1) := by decide +kernel
theorem dL_law_1315 : decode cL_law 1315 = .ok (.iload_n 3, 1) := by decide +kernel
theorem dL_law_1316 : decode cL_law 1316 = .ok (.iconst 2, 1) := by decide +kernel
theorem dL_law_1317 : decode cL_law 1317 = .ok (.iadd, 1) := by decide +kernel
theorem dL_law_1318 : decode cL_law 1318 = .ok (.iaload, 1) := by decide +kernel
theorem dL_law_1319 : decode cL_law 1319 = .ok (.aload_n 0, 1) := by decide +kernel
theorem dL_law_1320 : decode cL_law 1320 = .ok (.iload_n 3, 1) := by decide +kernel
theorem dL_law_1321 : decode cL_law 1321 = .ok (.iconst 3, 1) := by decide +kernel
theorem dL_law_1322 : decode cL_law 1322 = .ok (.iadd, 1) := by decide +kernel
theorem dL_law_1323 : decode cL_law 1323 = .ok (.iaload, 1) := by decide +kernel
theorem dL_law_1324 : decode cL_law 1324 = .ok (.aload_n 0, 1) := by decide +kernel
theorem dL_law_1325 : decode cL_law 1325 = .ok (.iload_n 3, 1) := by decide +kernel
theorem dL_law_1326 : decode cL_law 1326 = .ok (.iconst 4, 1) := by decide +kernel
theorem dL_law_1327 : decode cL_law 1327 = .ok (.iadd, 1) := by decide +kernel
theorem dL_law_1328 : decode cL_law 1328 = .ok (.iaload, 1) := by decide +kernel
theorem dL_law_1329 : decode cL_law 1329 = .ok (.aload_n 0, 1) := by decide +kernel
theorem dL_law_1330 : decode cL_law 1330 = .ok (.iload_n 3, 1) := by decide +kernel
theorem dL_law_1331 : decode cL_law 1331 = .ok (.iconst 5, 1) := by decide +kernel
theorem dL_law_1332 : decode cL_law 1332 = .ok (.iadd, 1) := by decide +kernel
theorem dL_law_1333 : decode cL_law 1333 = .ok (.iaload, 1) := by decide +kernel
theorem dL_law_1334 : decode cL_law 1334 = .ok (.invokevirtual 160, 3) := by decide +kernel
theorem dL_law_1337 : decode cL_law 1337 = .ok (.aload_n 2, 1) := by decide +kernel
theorem dL_law_1338 : decode cL_law 1338 = .ok (.aload_n 0, 1) := by decide +kernel
theorem dL_law_1339 : decode cL_law 1339 = .ok (.iload_n 3, 1) := by decide +kernel
theorem dL_law_1340 : decode cL_law 1340 = .ok (.iconst 1, 1) := by decide +kernel
theorem dL_law_1341 : decode cL_law 1341 = .ok (.iadd, 1) := by decide +kernel
theorem dL_law_1342 : decode cL_law 1342 = .ok (.iaload, 1) := by decide +kernel
theorem dL_law_1343 : decode cL_law 1343 = .ok (.aload_n 0, 1) := by decide +kernel
theorem dL_law_1344 : decode cL_law 1344 = .ok (.iload_n 3, 1) := by decide +kernel
theorem dL_law_1345 : decode cL_law 1345 = .ok (.iconst 2, 1) := by decide +kernel
theorem dL_law_1346 : decode cL_law 1346 = .ok (.iadd, 1) := by decide +kernel
theorem dL_law_1347 : decode cL_law 1347 = .ok (.iaload, 1) := by decide +kernel
theorem dL_law_1348 : decode cL_law 1348 = .ok (.aload_n 0, 1) := by decide +kernel
theorem dL_law_1349 : decode cL_law 1349 = .ok (.iload_n 3, 1) := by decide +kernel
theorem dL_law_1350 : decode cL_law 1350 = .ok (.iconst 3, 1) := by decide +kernel
theorem dL_law_1351 : decode cL_law 1351 = .ok (.iadd, 1) := by decide +kernel
theorem dL_law_1352 : decode cL_law 1352 = .ok (.iaload, 1) := by decide +kernel
theorem dL_law_1353 : decode cL_law 1353 = .ok (.aload_n 0, 1) := by decide +kernel
theorem dL_law_1354 : decode cL_law 1354 = .ok (.iload_n 3, 1) := by decide +kernel
theorem dL_law_1355 : decode cL_law 1355 = .ok (.iconst 4, 1) := by decide +kernel
theorem dL_law_1356 : decode cL_law 1356 = .ok (.iadd, 1) := by decide +kernel
theorem dL_law_1357 : decode cL_law 1357 = .ok (.iaload, 1) := by decide +kernel
theorem dL_law_1358 : decode cL_law 1358 = .ok (.aload_n 0, 1) := by decide +kernel
theorem dL_law_1359 : decode cL_law 1359 = .ok (.iload_n 3, 1) := by decide +kernel
theorem dL_law_1360 : decode cL_law 1360 = .ok (.iconst 5, 1) := by decide +kernel
theorem dL_law_1361 : decode cL_law 1361 = .ok (.iadd, 1) := by decide +kernel
theorem dL_law_1362 : decode cL_law 1362 = .ok (.iaload, 1) := by decide +kernel
theorem dL_law_1363 : decode cL_law 1363 = .ok (.invokevirtual 164, 3) := by decide +kernel
theorem dL_law_1366 : decode cL_law 1366 = .ok (.if_icmp .eq 92, 3) := by decide +kernel
theorem dL_law_1369 : decode cL_law 1369 = .ok (.iconst 0, 1) := by decide +kernel
theorem dL_law_1370 : decode cL_law 1370 = .ok (.ireturn, 1) := by decide +kernel
theorem dL_law_1371 : decode cL_law 1371 = .ok (.aload_n 1, 1) := by decide +kernel
theorem dL_law_1372 : decode cL_law 1372 = .ok (.aload_n 0, 1) := by decide +kernel
theorem dL_law_1373 : decode cL_law 1373 = .ok (.iload_n 3, 1) := by decide +kernel
theorem dL_law_1374 : decode cL_law 1374 = .ok (.iconst 1, 1) := by decide +kernel
theorem dL_law_1375 : decode cL_law 1375 = .ok (.iadd, 1) := by decide +kernel
theorem dL_law_1376 : decode cL_law 1376 = .ok (.iaload, 1) := by decide +kernel
theorem dL_law_1377 : decode cL_law 1377 = .ok (.aload_n 0, 1) := by decide +kernel
theorem dL_law_1378 : decode cL_law 1378 = .ok (.iload_n 3, 1) := by decide +kernel
theorem dL_law_1379 : decode cL_law 1379 = .ok (.iconst 2, 1) := by decide +kernel
theorem dL_law_1380 : decode cL_law 1380 = .ok (.iadd, 1) := by decide +kernel
theorem dL_law_1381 : decode cL_law 1381 = .ok (.iaload, 1) := by decide +kernel
theorem dL_law_1382 : decode cL_law 1382 = .ok (.aload_n 0, 1) := by decide +kernel
theorem dL_law_1383 : decode cL_law 1383 = .ok (.iload_n 3, 1) := by decide +kernel
theorem dL_law_1384 : decode cL_law 1384 = .ok (.iconst 3, 1) := by decide +kernel
theorem dL_law_1385 : decode cL_law 1385 = .ok (.iadd, 1) := by decide +kernel
theorem dL_law_1386 : decode cL_law 1386 = .ok (.iaload, 1) := by decide +kernel
theorem dL_law_1387 : decode cL_law 1387 = .ok (.aload_n 0, 1) := by decide +kernel
theorem dL_law_1388 : decode cL_law 1388 = .ok (.iload_n 3, 1) := by decide +kernel
theorem dL_law_1389 : decode cL_law 1389 = .ok (.iconst 4, 1) := by decide +kernel
theorem dL_law_1390 : decode cL_law 1390 = .ok (.iadd, 1) := by decide +kernel
theorem dL_law_1391 : decode cL_law 1391 = .ok (.iaload, 1) := by decide +kernel
theorem dL_law_1392 : decode cL_law 1392 = .ok (.invokevirtual 165, 3) := by decide +kernel
theorem dL_law_1395 : decode cL_law 1395 = .ok (.aload_n 2, 1) := by decide +kernel
theorem dL_law_1396 : decode cL_law 1396 = .ok (.aload_n 0, 1) := by decide +kernel
theorem dL_law_1397 : decode cL_law 1397 = .ok (.iload_n 3, 1) := by decide +kernel
theorem dL_law_1398 : decode cL_law 1398 = .ok (.iconst 1, 1) := by decide +kernel
theorem dL_law_1399 : decode cL_law 1399 = .ok (.iadd, 1) := by decide +kernel
theorem dL_law_1400 : decode cL_law 1400 = .ok (.iaload, 1) := by decide +kernel
theorem dL_law_1401 : decode cL_law 1401 = .ok (.aload_n 0, 1) := by decide +kernel
theorem dL_law_1402 : decode cL_law 1402 = .ok (.iload_n 3, 1) := by decide +kernel
theorem dL_law_1403 : decode cL_law 1403 = .ok (.iconst 2, 1) := by decide +kernel
theorem dL_law_1404 : decode cL_law 1404 = .ok (.iadd, 1) := by decide +kernel
theorem dL_law_1405 : decode cL_law 1405 = .ok (.iaload, 1) := by decide +kernel
theorem dL_law_1406 : decode cL_law 1406 = .ok (.aload_n 0, 1) := by decide +kernel
theorem dL_law_1407 : decode cL_law 1407 = .ok (.iload_n 3, 1) := by decide +kernel
theorem dL_law_1408 : decode cL_law 1408 = .ok (.iconst 3, 1) := by decide +kernel
theorem dL_law_1409 : decode cL_law 1409 = .ok (.iadd, 1) := by decide +kernel
theorem dL_law_1410 : decode cL_law 1410 = .ok (.iaload, 1) := by decide +kernel
theorem dL_law_1411 : decode cL_law 1411 = .ok (.aload_n 0, 1) := by decide +kernel
theorem dL_law_1412 : decode cL_law 1412 = .ok (.iload_n 3, 1) := by decide +kernel
theorem dL_law_1413 : decode cL_law 1413 = .ok (.iconst 4, 1) := by decide +kernel
theorem dL_law_1414 : decode cL_law 1414 = .ok (.iadd, 1) := by decide +kernel
theorem dL_law_1415 : decode cL_law 1415 = .ok (.iaload, 1) := by decide +kernel
theorem dL_law_1416 : decode cL_law 1416 = .ok (.invokevirtual 168, 3) := by decide +kernel
theorem dL_law_1419 : decode cL_law 1419 = .ok (.if_icmp .eq 39, 3) := by decide +kernel
theorem dL_law_1422 : decode cL_law 1422 = .ok (.iconst 0, 1) := by decide +kernel
theorem dL_law_1423 : decode cL_law 1423 = .ok (.ireturn, 1) := by decide +kernel
theorem dL_law_1424 : decode cL_law 1424 = .ok (.aload_n 1, 1) := by decide +kernel
theorem dL_law_1425 : decode cL_law 1425 = .ok (.aload_n 0, 1) := by decide +kernel
theorem dL_law_1426 : decode cL_law 1426 = .ok (.iload_n 3, 1) := by decide +kernel
theorem dL_law_1427 : decode cL_law 1427 = .ok (.iconst 1, 1) := by decide +kernel
theorem dL_law_1428 : decode cL_law 1428 = .ok (.iadd, 1) := by decide +kernel
theorem dL_law_1429 : decode cL_law 1429 = .ok (.iaload, 1) := by decide +kernel
theorem dL_law_1430 : decode cL_law 1430 = .ok (.aload_n 0, 1) := by decide +kernel
theorem dL_law_1431 : decode cL_law 1431 = .ok (.iload_n 3, 1) := by decide +kernel
theorem dL_law_1432 : decode cL_law 1432 = .ok (.iconst 2, 1) := by decide +kernel
theorem dL_law_1433 : decode cL_law 1433 = .ok (.iadd, 1) := by decide +kernel
theorem dL_law_1434 : decode cL_law 1434 = .ok (.iaload, 1) := by decide +kernel
theorem dL_law_1435 : decode cL_law 1435 = .ok (.invokevirtual 169, 3) := by decide +kernel
theorem dL_law_1438 : decode cL_law 1438 = .ok (.aload_n 2, 1) := by decide +kernel
theorem dL_law_1439 : decode cL_law 1439 = .ok (.aload_n 0, 1) := by decide +kernel
theorem dL_law_1440 : decode cL_law 1440 = .ok (.iload_n 3, 1) := by decide +kernel
theorem dL_law_1441 : decode cL_law 1441 = .ok (.iconst 1, 1) := by decide +kernel
theorem dL_law_1442 : decode cL_law 1442 = .ok (.iadd, 1) := by decide +kernel
theorem dL_law_1443 : decode cL_law 1443 = .ok (.iaload, 1) := by decide +kernel
theorem dL_law_1444 : decode cL_law 1444 = .ok (.aload_n 0, 1) := by decide +kernel
theorem dL_law_1445 : decode cL_law 1445 = .ok (.iload_n 3, 1) := by decide +kernel
theorem dL_law_1446 : decode cL_law 1446 = .ok (.iconst 2, 1) := by decide +kernel
theorem dL_law_1447 : decode cL_law 1447 = .ok (.iadd, 1) := by decide +kernel
theorem dL_law_1448 : decode cL_law 1448 = .ok (.iaload, 1) := by decide +kernel
theorem dL_law_1449 : decode cL_law 1449 = .ok (.invokevirtual 173, 3) := by decide +kernel
theorem dL_law_1452 : decode cL_law 1452 = .ok (.lcmp, 1) := by decide +kernel
theorem dL_law_1453 : decode cL_law 1453 = .ok (.ifCond .eq 5, 3) := by decide +kernel
theorem dL_law_1456 : decode cL_law 1456 = .ok (.iconst 0, 1) := by decide +kernel
theorem dL_law_1457 : decode cL_law 1457 = .ok (.ireturn, 1) := by decide +kernel
theorem dL_law_1458 : decode cL_law 1458 = .ok (.iinc 3 7, 3) := by decide +kernel
theorem dL_law_1461 : decode cL_law 1461 = .ok (.goto (-1443), 3) := by decide +kernel
theorem dL_law_1464 : decode cL_law 1464 = .ok (.iconst 1, 1) := by decide +kernel
theorem dL_law_1465 : decode cL_law 1465 = .ok (.ireturn, 1) := by decide +kernel
