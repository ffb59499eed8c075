theorem dX10_init_0 : decode cX10_init 0 = .ok (.aload_n 0, 1) := by decide +kernel
theorem dX10_init_1 : decode cX10_init 1 = .ok (.invokespecial 1, 3) := by decide +kernel
theorem dX10_init_4 : decode cX10_init 4 = .ok (.aload_n 0, 1) := by decide +kernel
theorem dX10_init_5 : decode cX10_init 5 = .ok (.sipush 12800, 3) := by decide +kernel
theorem dX10_init_8 : decode cX10_init 8 = .ok (.newarray .long, 2) := by decide +kernel
theorem dX10_init_10 : decode cX10_init 10 = .ok (.putfield 7, 3) := by decide +kernel
theorem dX10_init_13 : decode cX10_init 13 = .ok (.aload_n 0, 1) := by decide +kernel
theorem dX10_init_14 : decode cX10_init 14 = .ok (.sipush 200, 3) := by decide +kernel
theorem dX10_init_17 : decode cX10_init 17 = .ok (.newarray .boolean, 2) := by decide +kernel
theorem dX10_init_19 : decode cX10_init 19 = .ok (.putfield 13, 3) := by decide +kernel
theorem dX10_init_22 : decode cX10_init 22 = .ok (.aload_n 0, 1) := by decide +kernel
theorem dX10_init_23 : decode cX10_init 23 = .ok (.sipush 200, 3) := by decide +kernel
theorem dX10_init_26 : decode cX10_init 26 = .ok (.newarray .boolean, 2) := by decide +kernel
theorem dX10_init_28 : decode cX10_init 28 = .ok (.putfield 17, 3) := by decide +kernel
theorem dX10_init_31 : decode cX10_init 31 = .ok (.aload_n 0, 1) := by decide +kernel
theorem dX10_init_32 : decode cX10_init 32 = .ok (.sipush 200, 3) := by decide +kernel
theorem dX10_init_35 : decode cX10_init 35 = .ok (.newarray .int, 2) := by decide +kernel
theorem dX10_init_37 : decode cX10_init 37 = .ok (.putfield 20, 3) := by decide +kernel
theorem dX10_init_40 : decode cX10_init 40 = .ok (.aload_n 0, 1) := by decide +kernel
theorem dX10_init_41 : decode cX10_init 41 = .ok (.sipush 208, 3) := by decide +kernel
theorem dX10_init_44 : decode cX10_init 44 = .ok (.newarray .int, 2) := by decide +kernel
theorem dX10_init_46 : decode cX10_init 46 = .ok (.putfield 24, 3) := by decide +kernel
theorem dX10_init_49 : decode cX10_init 49 = .ok (.aload_n 0, 1) := by decide +kernel
theorem dX10_init_50 : decode cX10_init 50 = .ok (.sipush 208, 3) := by decide +kernel
theorem dX10_init_53 : decode cX10_init 53 = .ok (.newarray .int, 2) := by decide +kernel
theorem dX10_init_55 : decode cX10_init 55 = .ok (.putfield 27, 3) := by decide +kernel
theorem dX10_init_58 : decode cX10_init 58 = .ok (.aload_n 0, 1) := by decide +kernel
theorem dX10_init_59 : decode cX10_init 59 = .ok (.sipush 208, 3) := by decide +kernel
theorem dX10_init_62 : decode cX10_init 62 = .ok (.newarray .int, 2) := by decide +kernel
theorem dX10_init_64 : decode cX10_init 64 = .ok (.putfield 30, 3) := by decide +kernel
theorem dX10_init_67 : decode cX10_init 67 = .ok (.aload_n 0, 1) := by decide +kernel
theorem dX10_init_68 : decode cX10_init 68 = .ok (.sipush 208, 3) := by decide +kernel
theorem dX10_init_71 : decode cX10_init 71 = .ok (.newarray .boolean, 2) := by decide +kernel
theorem dX10_init_73 : decode cX10_init 73 = .ok (.putfield 33, 3) := by decide +kernel
theorem dX10_init_76 : decode cX10_init 76 = .ok (.aload_n 0, 1) := by decide +kernel
theorem dX10_init_77 : decode cX10_init 77 = .ok (.sipush 208, 3) := by decide +kernel
theorem dX10_init_80 : decode cX10_init 80 = .ok (.newarray .int, 2) := by decide +kernel
theorem dX10_init_82 : decode cX10_init 82 = .ok (.putfield 36, 3) := by decide +kernel
theorem dX10_init_85 : decode cX10_init 85 = .ok (.aload_n 0, 1) := by decide +kernel
theorem dX10_init_86 : decode cX10_init 86 = .ok (.bipush 64, 2) := by decide +kernel
theorem dX10_init_88 : decode cX10_init 88 = .ok (.newarray .long, 2) := by decide +kernel
theorem dX10_init_90 : decode cX10_init 90 = .ok (.putfield 39, 3) := by decide +kernel
theorem dX10_init_93 : decode cX10_init 93 = .ok (.aload_n 0, 1) := by decide +kernel
theorem dX10_init_94 : decode cX10_init 94 = .ok (.iconst 4, 1) := by decide +kernel
theorem dX10_init_95 : decode cX10_init 95 = .ok (.newarray .int, 2) := by decide +kernel
theorem dX10_init_97 : decode cX10_init 97 = .ok (.putfield 42, 3) := by decide +kernel
theorem dX10_init_100 : decode cX10_init 100 = .ok (.aload_n 0, 1) := by decide +kernel
theorem dX10_init_101 : decode cX10_init 101 = .ok (.iconst 4, 1) := by decide +kernel
theorem dX10_init_102 : decode cX10_init 102 = .ok (.newarray .boolean, 2) := by decide +kernel
theorem dX10_init_104 : decode cX10_init 104 = .ok (.putfield 45, 3) := by decide +kernel
theorem dX10_init_107 : decode cX10_init 107 = .ok (.aload_n 0, 1) := by decide +kernel
theorem dX10_init_108 : decode cX10_init 108 = .ok (.bipush 64, 2) := by decide +kernel
theorem dX10_init_110 : decode cX10_init 110 = .ok (.newarray .long, 2) := by decide +kernel
theorem dX10_init_112 : decode cX10_init 112 = .ok (.putfield 48, 3) := by decide +kernel
theorem dX10_init_115 : decode cX10_init 115 = .ok (.aload_n 0, 1) := by decide +kernel
theorem dX10_init_116 : decode cX10_init 116 = .ok (.iconst 5, 1) := by decide +kernel
theorem dX10_init_117 : decode cX10_init 117 = .ok (.newarray .long, 2) := by decide +kernel
theorem dX10_init_119 : decode cX10_init 119 = .ok (.putfield 51, 3) := by decide +kernel
theorem dX10_init_122 : decode cX10_init 122 = .ok (.aload_n 0, 1) := by decide +kernel
theorem dX10_init_123 : decode cX10_init 123 = .ok (.iconst 4, 1) := by decide +kernel
theorem dX10_init_124 : decode cX10_init 124 = .ok (.newarray .long, 2) := by decide +kernel
theorem dX10_init_126 : decode cX10_init 126 = .ok (.putfield 54, 3) := by decide +kernel
theorem dX10_init_129 : decode cX10_init 129 = .ok (.aload_n 0, 1) := by decide +kernel
theorem dX10_init_130 : decode cX10_init 130 = .ok (.bipush 64, 2) := by decide +kernel
theorem dX10_init_132 : decode cX10_init 132 = .ok (.newarray .int, 2) := by decide +kernel
theorem dX10_init_134 : decode cX10_init 134 = .ok (.putfield 57, 3) := by decide +kernel
theorem dX10_init_137 : decode cX10_init 137 = .ok (.aload_n 0, 1) := by decide +kernel
theorem dX10_init_138 : decode cX10_init 138 = .ok (.bipush 64, 2) := by decide +kernel
theorem dX10_init_140 : decode cX10_init 140 = .ok (.newarray .boolean, 2) := by decide +kernel
theorem dX10_init_142 : decode cX10_init 142 = .ok (.putfield 60, 3) := by decide +kernel
theorem dX10_init_145 : decode cX10_init 145 = .ok (.aload_n 0, 1) := by decide +kernel
theorem dX10_init_146 : decode cX10_init 146 = .ok (.sipush 208, 3) := by decide +kernel
theorem dX10_init_149 : decode cX10_init 149 = .ok (.newarray .int, 2) := by decide +kernel
theorem dX10_init_151 : decode cX10_init 151 = .ok (.putfield 63, 3) := by decide +kernel
theorem dX10_init_154 : decode cX10_init 154 = .ok (.aload_n 0, 1) := by decide +kernel
theorem dX10_init_155 : decode cX10_init 155 = .ok (.bipush 8, 2) := by decide +kernel
theorem dX10_init_157 : decode cX10_init 157 = .ok (.newarray .int, 2) := by decide +kernel
theorem dX10_init_159 : decode cX10_init 159 = .ok (.putfield 66, 3) := by decide +kernel
theorem dX10_init_162 : decode cX10_init 162 = .ok (.aload_n 0, 1) := by decide +kernel
theorem dX10_init_163 : decode cX10_init 163 = .ok (.bipush 8, 2) := by decide +kernel
theorem dX10_init_165 : decode cX10_init 165 = .ok (.newarray .int, 2) := by decide +kernel
theorem dX10_init_167 : decode cX10_init 167 = .ok (.putfield 69, 3) := by decide +kernel
theorem dX10_init_170 : decode cX10_init 170 = .ok (.aload_n 0, 1) := by decide +kernel
theorem dX10_init_171 : decode cX10_init 171 = .ok (.bipush 8, 2) := by decide +kernel
theorem dX10_init_173 : decode cX10_init 173 = .ok (.newarray .int, 2) := by decide +kernel
theorem dX10_init_175 : decode cX10_init 175 = .ok (.putfield 72, 3) := by decide +kernel
theorem dX10_init_178 : decode cX10_init 178 = .ok (.aload_n 0, 1) := by decide +kernel
theorem dX10_init_179 : decode cX10_init 179 = .ok (.bipush 8, 2) := by decide +kernel
theorem dX10_init_181 : decode cX10_init 181 = .ok (.newarray .int, 2) := by decide +kernel
theorem dX10_init_183 : decode cX10_init 183 = .ok (.putfield 75, 3) := by decide +kernel
theorem dX10_init_186 : decode cX10_init 186 = .ok (.aload_n 0, 1) := by decide +kernel
theorem dX10_init_187 : decode cX10_init 187 = .ok (.sipush 208, 3) := by decide +kernel
theorem dX10_init_190 : decode cX10_init 190 = .ok (.newarray .boolean, 2) := by decide +kernel
theorem dX10_init_192 : decode cX10_init 192 = .ok (.putfield 78, 3) := by decide +kernel
theorem dX10_init_195 : decode cX10_init 195 = .ok (.aload_n 0, 1) := by decide +kernel
theorem dX10_init_196 : decode cX10_init 196 = .ok (.sipush 1456, 3) := by decide +kernel
theorem dX10_init_199 : decode cX10_init 199 = .ok (.newarray .int, 2) := by decide +kernel
theorem dX10_init_201 : decode cX10_init 201 = .ok (.putfield 81, 3) := by decide +kernel
theorem dX10_init_204 : decode cX10_init 204 = .ok (.aload_n 0, 1) := by decide +kernel
theorem dX10_init_205 : decode cX10_init 205 = .ok (.bipush 7, 2) := by decide +kernel
theorem dX10_init_207 : decode cX10_init 207 = .ok (.newarray .int, 2) := by decide +kernel
theorem dX10_init_209 : decode cX10_init 209 = .ok (.putfield 84, 3) := by decide +kernel
theorem dX10_init_212 : decode cX10_init 212 = .ok (.aload_n 0, 1) := by decide +kernel
theorem dX10_init_213 : decode cX10_init 213 = .ok (.bipush 7, 2) := by decide +kernel
theorem dX10_init_215 : decode cX10_init 215 = .ok (.newarray .int, 2) := by decide +kernel
theorem dX10_init_217 : decode cX10_init 217 = .ok (.putfield 87, 3) := by decide +kernel
theorem dX10_init_220 : decode cX10_init 220 = .ok (.aload_n 0, 1) := by decide +kernel
theorem dX10_init_221 : decode cX10_init 221 = .ok (.bipush 7, 2) := by decide +kernel
theorem dX10_init_223 : decode cX10_init 223 = .ok (.newarray .int, 2) := by decide +kernel
theorem dX10_init_225 : decode cX10_init 225 = .ok (.putfield 90, 3) := by decide +kernel
theorem dX10_init_228 : decode cX10_init 228 = .ok (.aload_n 0, 1) := by decide +kernel
theorem dX10_init_229 : decode cX10_init 229 = .ok (.bipush 7, 2) := by decide +kernel
theorem dX10_init_231 : decode cX10_init 231 = .ok (.newarray .int, 2) := by decide +kernel
theorem dX10_init_233 : decode cX10_init 233 = .ok (.putfield 93, 3) := by decide +kernel
theorem dX10_init_236 : decode cX10_init 236 = .ok (.aload_n 0, 1) := by decide +kernel
theorem dX10_init_237 : decode cX10_init 237 = .ok (.bipush 8, 2) := by decide +kernel
theorem dX10_init_239 : decode cX10_init 239 = .ok (.newarray .int, 2) := by decide +kernel
theorem dX10_init_241 : decode cX10_init 241 = .ok (.putfield 96, 3) := by decide +kernel
theorem dX10_init_244 : decode cX10_init 244 = .ok (.aload_n 0, 1) := by decide +kernel
theorem dX10_init_245 : decode cX10_init 245 = .ok (.sipush 208, 3) := by decide +kernel
theorem dX10_init_248 : decode cX10_init 248 = .ok (.newarray .int, 2) := by decide +kernel
theorem dX10_init_250 : decode cX10_init 250 = .ok (.putfield 99, 3) := by decide +kernel
theorem dX10_init_253 : decode cX10_init 253 = .ok (.aload_n 0, 1) := by decide +kernel
theorem dX10_init_254 : decode cX10_init 254 = .ok (.iload_n 1, 1) := by decide +kernel
theorem dX10_init_255 : decode cX10_init 255 = .ok (.iconst 2, 1) := by decide +kernel
theorem dX10_init_256 : decode cX10_init 256 = .ok (.sipush 200, 3) := by decide +kernel
theorem dX10_init_259 : decode cX10_init 259 = .ok (.invokestatic 102, 3) := by decide +kernel
theorem dX10_init_262 : decode cX10_init 262 = .ok (.putfield 106, 3) := by decide +kernel
theorem dX10_init_265 : decode cX10_init 265 = .ok (.aload_n 0, 1) := by decide +kernel
theorem dX10_init_266 : decode cX10_init 266 = .ok (.iload_n 2, 1) := by decide +kernel
theorem dX10_init_267 : decode cX10_init 267 = .ok (.iconst 5, 1) := by decide +kernel
theorem dX10_init_268 : decode cX10_init 268 = .ok (.bipush 64, 2) := by decide +kernel
theorem dX10_init_270 : decode cX10_init 270 = .ok (.invokestatic 102, 3) := by decide +kernel
theorem dX10_init_273 : decode cX10_init 273 = .ok (.putfield 110, 3) := by decide +kernel
theorem dX10_init_276 : decode cX10_init 276 = .ok (.aload_n 0, 1) := by decide +kernel
theorem dX10_init_277 : decode cX10_init 277 = .ok (.iload_n 3, 1) := by decide +kernel
theorem dX10_init_278 : decode cX10_init 278 = .ok (.iconst 2, 1) := by decide +kernel
theorem dX10_init_279 : decode cX10_init 279 = .ok (.bipush 64, 2) := by decide +kernel
theorem dX10_init_281 : decode cX10_init 281 = .ok (.invokestatic 102, 3) := by decide +kernel
theorem dX10_init_284 : decode cX10_init 284 = .ok (.putfield 113, 3) := by decide +kernel
theorem dX10_init_287 : decode cX10_init 287 = .ok (.aload_n 0, 1) := by decide +kernel
theorem dX10_init_288 : decode cX10_init 288 = .ok (.iconst 1, 1) := by decide +kernel
theorem dX10_init_289 : decode cX10_init 289 = .ok (.putfield 116, 3) := by decide +kernel
theorem dX10_init_292 : decode cX10_init 292 = .ok (.aload_n 0, 1) := by decide +kernel
theorem dX10_init_293 : decode cX10_init 293 = .ok (.iconst (-1), 1) := by decide +kernel
theorem dX10_init_294 : decode cX10_init 294 = .ok (.putfield 119, 3) := by decide +kernel
theorem dX10_init_297 : decode cX10_init 297 = .ok (.aload_n 0, 1) := by decide +kernel
theorem dX10_init_298 : decode cX10_init 298 = .ok (.iconst (-1), 1) := by decide +kernel
theorem dX10_init_299 : decode cX10_init 299 = .ok (.putfield 122, 3) := by decide +kernel
theorem dX10_init_302 : decode cX10_init 302 = .ok (.aload_n 0, 1) := by decide +kernel
theorem dX10_init_303 : decode cX10_init 303 = .ok (.getfield 24, 3) := by decide +kernel
theorem dX10_init_306 : decode cX10_init 306 = .ok (.iconst 0, 1) := by decide +kernel
theorem dX10_init_307 : decode cX10_init 307 = .ok (.iconst (-1), 1) := by decide +kernel
theorem dX10_init_308 : decode cX10_init 308 = .ok (.iastore, 1) := by decide +kernel
theorem dX10_init_309 : decode cX10_init 309 = .ok (.aload_n 0, 1) := by decide +kernel
theorem dX10_init_310 : decode cX10_init 310 = .ok (.getfield 27, 3) := by decide +kernel
theorem dX10_init_313 : decode cX10_init 313 = .ok (.iconst 0, 1) := by decide +kernel
theorem dX10_init_314 : decode cX10_init 314 = .ok (.iconst (-1), 1) := by decide +kernel
theorem dX10_init_315 : decode cX10_init 315 = .ok (.iastore, 1) := by decide +kernel
theorem dX10_init_316 : decode cX10_init 316 = .ok (.aload_n 0, 1) := by decide +kernel
theorem dX10_init_317 : decode cX10_init 317 = .ok (.getfield 33, 3) := by decide +kernel
theorem dX10_init_320 : decode cX10_init 320 = .ok (.iconst 0, 1) := by decide +kernel
theorem dX10_init_321 : decode cX10_init 321 = .ok (.iconst 1, 1) := by decide +kernel
theorem dX10_init_322 : decode cX10_init 322 = .ok (.bastore, 1) := by decide +kernel
theorem dX10_init_323 : decode cX10_init 323 = .ok (.return_, 1) := by decide +kernel
theorem dX10_thrown_0 : decode cX10_thrown 0 = .ok (.aload_n 0, 1) := by decide +kernel
theorem dX10_thrown_1 : decode cX10_thrown 1 = .ok (.getfield 125, 3) := by decide +kernel
theorem dX10_thrown_4 : decode cX10_thrown 4 = .ok (.ireturn, 1) := by decide +kernel
theorem dX10_near_0 : decode cX10_near 0 = .ok (.iload_n 0, 1) := by decide +kernel
theorem dX10_near_1 : decode cX10_near 1 = .ok (.iload_n 1, 1) := by decide +kernel
theorem dX10_near_2 : decode cX10_near 2 = .ok (.if_icmp .ge 7, 3) := by decide +kernel
theorem dX10_near_5 : decode cX10_near 5 = .ok (.iload_n 1, 1) := by decide +kernel
theorem dX10_near_6 : decode cX10_near 6 = .ok (.goto 13, 3) := by decide +kernel
theorem dX10_near_9 : decode cX10_near 9 = .ok (.iload_n 0, 1) := by decide +kernel
theorem dX10_near_10 : decode cX10_near 10 = .ok (.iload_n 2, 1) := by decide +kernel
theorem dX10_near_11 : decode cX10_near 11 = .ok (.if_icmp .le 7, 3) := by decide +kernel
theorem dX10_near_14 : decode cX10_near 14 = .ok (.iload_n 2, 1) := by decide +kernel
theorem dX10_near_15 : decode cX10_near 15 = .ok (.goto 4, 3) := by decide +kernel
theorem dX10_near_18 : decode cX10_near 18 = .ok (.iload_n 0, 1) := by decide +kernel
theorem dX10_near_19 : decode cX10_near 19 = .ok (.ireturn, 1) := by decide +kernel
theorem dX10_isIn_0 : decode cX10_isIn 0 = .ok (.iload_n 0, 1) := by decide +kernel
theorem dX10_isIn_1 : decode cX10_isIn 1 = .ok (.iload_n 1, 1) := by decide +kernel
theorem dX10_isIn_2 : decode cX10_isIn 2 = .ok (.if_icmp .lt 12, 3) := by decide +kernel
theorem dX10_isIn_5 : decode cX10_isIn 5 = .ok (.iload_n 0, 1) := by decide +kernel
theorem dX10_isIn_6 : decode cX10_isIn 6 = .ok (.iload_n 2, 1) := by decide +kernel
theorem dX10_isIn_7 : decode cX10_isIn 7 = .ok (.if_icmp .gt 7, 3) := by decide +kernel
theorem dX10_isIn_10 : decode cX10_isIn 10 = .ok (.iconst 1, 1) := by decide +kernel
theorem dX10_isIn_11 : decode cX10_isIn 11 = .ok (.goto 4, 3) := by decide +kernel
theorem dX10_isIn_14 : decode cX10_isIn 14 = .ok (.iconst 0, 1) := by decide +kernel
theorem dX10_isIn_15 : decode cX10_isIn 15 = .ok (.ireturn, 1) := by decide +kernel
theorem dX10_per_0 : decode cX10_per 0 = .ok (.aload_n 0, 1) := by decide +kernel
theorem dX10_per_1 : decode cX10_per 1 = .ok (.getfield 110, 3) := by decide +kernel
theorem dX10_per_4 : decode cX10_per 4 = .ok (.aload_n 0, 1) := by decide +kernel
theorem dX10_per_5 : decode cX10_per 5 = .ok (.getfield 116, 3) := by decide +kernel
theorem dX10_per_8 : decode cX10_per 8 = .ok (.iconst 1, 1) := by decide +kernel
theorem dX10_per_9 : decode cX10_per 9 = .ok (.iadd, 1) := by decide +kernel
theorem dX10_per_10 : decode cX10_per 10 = .ok (.idiv, 1) := by decide +kernel
theorem dX10_per_11 : decode cX10_per 11 = .ok (.ireturn, 1) := by decide +kernel
theorem dX10_go_0 : decode cX10_go 0 = .ok (.aload_n 0, 1) := by decide +kernel
theorem dX10_go_1 : decode cX10_go 1 = .ok (.dup, 1) := by decide +kernel
theorem dX10_go_2 : decode cX10_go 2 = .ok (.getfield 128, 3) := by decide +kernel
theorem dX10_go_5 : decode cX10_go 5 = .ok (.iload_n 1, 1) := by decide +kernel
theorem dX10_go_6 : decode cX10_go 6 = .ok (.aload_n 0, 1) := by decide +kernel
theorem dX10_go_7 : decode cX10_go 7 = .ok (.getfield 131, 3) := by decide +kernel
theorem dX10_go_10 : decode cX10_go 10 = .ok (.if_icmp .le 12, 3) := by decide +kernel
theorem dX10_go_13 : decode cX10_go 13 = .ok (.iload_n 1, 1) := by decide +kernel
theorem dX10_go_14 : decode cX10_go 14 = .ok (.aload_n 0, 1) := by decide +kernel
theorem dX10_go_15 : decode cX10_go 15 = .ok (.getfield 131, 3) := by decide +kernel
theorem dX10_go_18 : decode cX10_go 18 = .ok (.isub, 1) := by decide +kernel
theorem dX10_go_19 : decode cX10_go 19 = .ok (.goto 9, 3) := by decide +kernel
theorem dX10_go_22 : decode cX10_go 22 = .ok (.aload_n 0, 1) := by decide +kernel
theorem dX10_go_23 : decode cX10_go 23 = .ok (.getfield 131, 3) := by decide +kernel
theorem dX10_go_26 : decode cX10_go 26 = .ok (.iload_n 1, 1) := by decide +kernel
theorem dX10_go_27 : decode cX10_go 27 = .ok (.isub, 1) := by decide +kernel
theorem dX10_go_28 : decode cX10_go 28 = .ok (.iadd, 1) := by decide +kernel
theorem dX10_go_29 : decode cX10_go 29 = .ok (.putfield 128, 3) := by decide +kernel
theorem dX10_go_32 : decode cX10_go 32 = .ok (.aload_n 0, 1) := by decide +kernel
theorem dX10_go_33 : decode cX10_go 33 = .ok (.iload_n 1, 1) := by decide +kernel
theorem dX10_go_34 : decode cX10_go 34 = .ok (.putfield 131, 3) := by decide +kernel
theorem dX10_go_37 : decode cX10_go 37 = .ok (.aload_n 0, 1) := by decide +kernel
theorem dX10_go_38 : decode cX10_go 38 = .ok (.iload_n 1, 1) := by decide +kernel
theorem dX10_go_39 : decode cX10_go 39 = .ok (.putfield 119, 3) := by decide +kernel
theorem dX10_go_42 : decode cX10_go 42 = .ok (.return_, 1) := by decide +kernel
theorem dX10_read_0 : decode cX10_read 0 = .ok (.aload_n 0, 1) := by decide +kernel
theorem dX10_read_1 : decode cX10_read 1 = .ok (.getfield 134, 3) := by decide +kernel
theorem dX10_read_4 : decode cX10_read 4 = .ok (.ifCond .ne 18, 3) := by decide +kernel
theorem dX10_read_7 : decode cX10_read 7 = .ok (.aload_n 0, 1) := by decide +kernel
theorem dX10_read_8 : decode cX10_read 8 = .ok (.dup, 1) := by decide +kernel
theorem dX10_read_9 : decode cX10_read 9 = .ok (.getfield 137, 3) := by decide +kernel
theorem dX10_read_12 : decode cX10_read 12 = .ok (.iconst 1, 1) := by decide +kernel
theorem dX10_read_13 : decode cX10_read 13 = .ok (.iadd, 1) := by decide +kernel
theorem dX10_read_14 : decode cX10_read 14 = .ok (.putfield 137, 3) := by decide +kernel
theorem dX10_read_17 : decode cX10_read 17 = .ok (.aload_n 0, 1) := by decide +kernel
theorem dX10_read_18 : decode cX10_read 18 = .ok (.iload_n 1, 1) := by decide +kernel
theorem dX10_read_19 : decode cX10_read 19 = .ok (.invokevirtual 140, 3) := by decide +kernel
theorem dX10_read_22 : decode cX10_read 22 = .ok (.return_, 1) := by decide +kernel
theorem dX10_write_0 : decode cX10_write 0 = .ok (.iconst 0, 1) := by decide +kernel
theorem dX10_write_1 : decode cX10_write 1 = .ok (.istore_n 3, 1) := by decide +kernel
theorem dX10_write_2 : decode cX10_write 2 = .ok (.iload_n 3, 1) := by decide +kernel
theorem dX10_write_3 : decode cX10_write 3 = .ok (.aload_n 0, 1) := by decide +kernel
theorem dX10_write_4 : decode cX10_write 4 = .ok (.getfield 106, 3) := by decide +kernel
theorem dX10_write_7 : decode cX10_write 7 = .ok (.if_icmp .ge 18, 3) := by decide +kernel
theorem dX10_write_10 : decode cX10_write 10 = .ok (.aload_n 0, 1) := by decide +kernel
theorem dX10_write_11 : decode cX10_write 11 = .ok (.getfield 13, 3) := by decide +kernel
theorem dX10_write_14 : decode cX10_write 14 = .ok (.iload_n 3, 1) := by decide +kernel
theorem dX10_write_15 : decode cX10_write 15 = .ok (.baload, 1) := by decide +kernel
theorem dX10_write_16 : decode cX10_write 16 = .ok (.ifCond .eq 9, 3) := by decide +kernel
theorem dX10_write_19 : decode cX10_write 19 = .ok (.iinc 3 1, 3) := by decide +kernel
theorem dX10_write_22 : decode cX10_write 22 = .ok (.goto (-20), 3) := by decide +kernel
theorem dX10_write_25 : decode cX10_write 25 = .ok (.aload_n 0, 1) := by decide +kernel
theorem dX10_write_26 : decode cX10_write 26 = .ok (.getfield 134, 3) := by decide +kernel
theorem dX10_write_29 : decode cX10_write 29 = .ok (.ifCond .ne 31, 3) := by decide +kernel
theorem dX10_write_32 : decode cX10_write 32 = .ok (.aload_n 0, 1) := by decide +kernel
theorem dX10_write_33 : decode cX10_write 33 = .ok (.iload_n 3, 1) := by decide +kernel
theorem dX10_write_34 : decode cX10_write 34 = .ok (.aload_n 0, 1) := by decide +kernel
theorem dX10_write_35 : decode cX10_write 35 = .ok (.getfield 106, 3) := by decide +kernel
theorem dX10_write_38 : decode cX10_write 38 = .ok (.if_icmp .ne 7, 3) := by decide +kernel
theorem dX10_write_41 : decode cX10_write 41 = .ok (.iconst 2, 1) := by decide +kernel
theorem dX10_write_42 : decode cX10_write 42 = .ok (.goto 15, 3) := by decide +kernel
theorem dX10_write_45 : decode cX10_write 45 = .ok (.aload_n 0, 1) := by decide +kernel
theorem dX10_write_46 : decode cX10_write 46 = .ok (.getfield 122, 3) := by decide +kernel
theorem dX10_write_49 : decode cX10_write 49 = .ok (.ifCond .ne 7, 3) := by decide +kernel
theorem dX10_write_52 : decode cX10_write 52 = .ok (.iconst 1, 1) := by decide +kernel
theorem dX10_write_53 : decode cX10_write 53 = .ok (.goto 4, 3) := by decide +kernel
theorem dX10_write_56 : decode cX10_write 56 = .ok (.iconst 0, 1) := by decide +kernel
theorem dX10_write_57 : decode cX10_write 57 = .ok (.putfield 134, 3) := by decide +kernel
theorem dX10_write_60 : decode cX10_write 60 = .ok (.aload_n 0, 1) := by decide +kernel
theorem dX10_write_61 : decode cX10_write 61 = .ok (.getfield 134, 3) := by decide +kernel
theorem dX10_write_64 : decode cX10_write 64 = .ok (.ifCond .le 5, 3) := by decide +kernel
theorem dX10_write_67 : decode cX10_write 67 = .ok (.iconst (-1), 1) := by decide +kernel
theorem dX10_write_68 : decode cX10_write 68 = .ok (.ireturn, 1) := by decide +kernel
theorem dX10_write_69 : decode cX10_write 69 = .ok (.aload_n 0, 1) := by decide +kernel
theorem dX10_write_70 : decode cX10_write 70 = .ok (.aload_n 0, 1) := by decide +kernel
theorem dX10_write_71 : decode cX10_write 71 = .ok (.getfield 122, 3) := by decide +kernel
theorem dX10_write_74 : decode cX10_write 74 = .ok (.ifCond .le 12, 3) := by decide +kernel
theorem dX10_write_77 : decode cX10_write 77 = .ok (.aload_n 0, 1) := by decide +kernel
theorem dX10_write_78 : decode cX10_write 78 = .ok (.getfield 122, 3) := by decide +kernel
theorem dX10_write_81 : decode cX10_write 81 = .ok (.iconst 1, 1) := by decide +kernel
theorem dX10_write_82 : decode cX10_write 82 = .ok (.isub, 1) := by decide +kernel
theorem dX10_write_83 : decode cX10_write 83 = .ok (.goto 7, 3) := by decide +kernel
theorem dX10_write_86 : decode cX10_write 86 = .ok (.aload_n 0, 1) := by decide +kernel
theorem dX10_write_87 : decode cX10_write 87 = .ok (.getfield 122, 3) := by decide +kernel
theorem dX10_write_90 : decode cX10_write 90 = .ok (.putfield 122, 3) := by decide +kernel
theorem dX10_write_93 : decode cX10_write 93 = .ok (.aload_n 0, 1) := by decide +kernel
theorem dX10_write_94 : decode cX10_write 94 = .ok (.getfield 13, 3) := by decide +kernel
theorem dX10_write_97 : decode cX10_write 97 = .ok (.iload_n 3, 1) := by decide +kernel
theorem dX10_write_98 : decode cX10_write 98 = .ok (.iconst 1, 1) := by decide +kernel
theorem dX10_write_99 : decode cX10_write 99 = .ok (.bastore, 1) := by decide +kernel
theorem dX10_write_100 : decode cX10_write 100 = .ok (.aload_n 0, 1) := by decide +kernel
theorem dX10_write_101 : decode cX10_write 101 = .ok (.getfield 17, 3) := by decide +kernel
theorem dX10_write_104 : decode cX10_write 104 = .ok (.iload_n 3, 1) := by decide +kernel
theorem dX10_write_105 : decode cX10_write 105 = .ok (.iconst 1, 1) := by decide +kernel
theorem dX10_write_106 : decode cX10_write 106 = .ok (.bastore, 1) := by decide +kernel
theorem dX10_write_107 : decode cX10_write 107 = .ok (.aload_n 0, 1) := by decide +kernel
theorem dX10_write_108 : decode cX10_write 108 = .ok (.getfield 20, 3) := by decide +kernel
theorem dX10_write_111 : decode cX10_write 111 = .ok (.iload_n 3, 1) := by decide +kernel
theorem dX10_write_112 : decode cX10_write 112 = .ok (.iconst (-1), 1) := by decide +kernel
theorem dX10_write_113 : decode cX10_write 113 = .ok (.iastore, 1) := by decide +kernel
theorem dX10_write_114 : decode cX10_write 114 = .ok (.aload_n 0, 1) := by decide +kernel
theorem dX10_write_115 : decode cX10_write 115 = .ok (.dup, 1) := by decide +kernel
theorem dX10_write_116 : decode cX10_write 116 = .ok (.getfield 144, 3) := by decide +kernel
theorem dX10_write_119 : decode cX10_write 119 = .ok (.iconst 1, 1) := by decide +kernel
theorem dX10_write_120 : decode cX10_write 120 = .ok (.iadd, 1) := by decide +kernel
theorem dX10_write_121 : decode cX10_write 121 = .ok (.putfield 144, 3) := by decide +kernel
theorem dX10_write_124 : decode cX10_write 124 = .ok (.aload_n 0, 1) := by decide +kernel
theorem dX10_write_125 : decode cX10_write 125 = .ok (.iload_n 3, 1) := by decide +kernel
theorem dX10_write_126 : decode cX10_write 126 = .ok (.invokevirtual 140, 3) := by decide +kernel
theorem dX10_write_129 : decode cX10_write 129 = .ok (.iconst 0, 1) := by decide +kernel
theorem dX10_write_130 : decode cX10_write 130 = .ok (.istore 4, 2) := by decide +kernel
theorem dX10_write_132 : decode cX10_write 132 = .ok (.iload 4, 2) := by decide +kernel
theorem dX10_write_134 : decode cX10_write 134 = .ok (.iload_n 2, 1) := by decide +kernel
theorem dX10_write_135 : decode cX10_write 135 = .ok (.aload_n 0, 1) := by decide +kernel
theorem dX10_write_136 : decode cX10_write 136 = .ok (.getfield 116, 3) := by decide +kernel
theorem dX10_write_139 : decode cX10_write 139 = .ok (.iconst 1, 1) := by decide +kernel
theorem dX10_write_140 : decode cX10_write 140 = .ok (.iadd, 1) := by decide +kernel
theorem dX10_write_141 : decode cX10_write 141 = .ok (.imul, 1) := by decide +kernel
theorem dX10_write_142 : decode cX10_write 142 = .ok (.if_icmp .ge 25, 3) := by decide +kernel
theorem dX10_write_145 : decode cX10_write 145 = .ok (.aload_n 0, 1) := by decide +kernel
theorem dX10_write_146 : decode cX10_write 146 = .ok (.getfield 7, 3) := by decide +kernel
theorem dX10_write_149 : decode cX10_write 149 = .ok (.bipush 64, 2) := by decide +kernel
theorem dX10_write_151 : decode cX10_write 151 = .ok (.iload_n 3, 1) := by decide +kernel
theorem dX10_write_152 : decode cX10_write 152 = .ok (.imul, 1) := by decide +kernel
theorem dX10_write_153 : decode cX10_write 153 = .ok (.iload 4, 2) := by decide +kernel
theorem dX10_write_155 : decode cX10_write 155 = .ok (.iadd, 1) := by decide +kernel
theorem dX10_write_156 : decode cX10_write 156 = .ok (.aload_n 1, 1) := by decide +kernel
theorem dX10_write_157 : decode cX10_write 157 = .ok (.iload 4, 2) := by decide +kernel
theorem dX10_write_159 : decode cX10_write 159 = .ok (.laload, 1) := by decide +kernel
theorem dX10_write_160 : decode cX10_write 160 = .ok (.lastore, 1) := by decide +kernel
theorem dX10_write_161 : decode cX10_write 161 = .ok (.iinc 4 1, 3) := by decide +kernel
theorem dX10_write_164 : decode cX10_write 164 = .ok (.goto (-32), 3) := by decide +kernel
theorem dX10_write_167 : decode cX10_write 167 = .ok (.iload_n 3, 1) := by decide +kernel
theorem dX10_write_168 : decode cX10_write 168 = .ok (.ireturn, 1) := by decide +kernel
theorem dX10_begin_0 : decode cX10_begin 0 = .ok (.aload_n 0, 1) := by decide +kernel
theorem dX10_begin_1 : decode cX10_begin 1 = .ok (.iconst 0, 1) := by decide +kernel
theorem dX10_begin_2 : decode cX10_begin 2 = .ok (.putfield 134, 3) := by decide +kernel
theorem dX10_begin_5 : decode cX10_begin 5 = .ok (.iconst 0, 1) := by decide +kernel
theorem dX10_begin_6 : decode cX10_begin 6 = .ok (.istore_n 1, 1) := by decide +kernel
theorem dX10_begin_7 : decode cX10_begin 7 = .ok (.iload_n 1, 1) := by decide +kernel
theorem dX10_begin_8 : decode cX10_begin 8 = .ok (.aload_n 0, 1) := by decide +kernel
theorem dX10_begin_9 : decode cX10_begin 9 = .ok (.getfield 106, 3) := by decide +kernel
theorem dX10_begin_12 : decode cX10_begin 12 = .ok (.if_icmp .ge 16, 3) := by decide +kernel
theorem dX10_begin_15 : decode cX10_begin 15 = .ok (.aload_n 0, 1) := by decide +kernel
theorem dX10_begin_16 : decode cX10_begin 16 = .ok (.getfield 17, 3) := by decide +kernel
theorem dX10_begin_19 : decode cX10_begin 19 = .ok (.iload_n 1, 1) := by decide +kernel
theorem dX10_begin_20 : decode cX10_begin 20 = .ok (.iconst 0, 1) := by decide +kernel
theorem dX10_begin_21 : decode cX10_begin 21 = .ok (.bastore, 1) := by decide +kernel
theorem dX10_begin_22 : decode cX10_begin 22 = .ok (.iinc 1 1, 3) := by decide +kernel
theorem dX10_begin_25 : decode cX10_begin 25 = .ok (.goto (-18), 3) := by decide +kernel
theorem dX10_begin_28 : decode cX10_begin 28 = .ok (.return_, 1) := by decide +kernel
theorem dX10_giveBack_0 : decode cX10_giveBack 0 = .ok (.iconst 0, 1) := by decide +kernel
theorem dX10_giveBack_1 : decode cX10_giveBack 1 = .ok (.istore_n 1, 1) := by decide +kernel
theorem dX10_giveBack_2 : decode cX10_giveBack 2 = .ok (.iload_n 1, 1) := by decide +kernel
theorem dX10_giveBack_3 : decode cX10_giveBack 3 = .ok (.aload_n 0, 1) := by decide +kernel
theorem dX10_giveBack_4 : decode cX10_giveBack 4 = .ok (.getfield 106, 3) := by decide +kernel
theorem dX10_giveBack_7 : decode cX10_giveBack 7 = .ok (.if_icmp .ge 38, 3) := by decide +kernel
theorem dX10_giveBack_10 : decode cX10_giveBack 10 = .ok (.aload_n 0, 1) := by decide +kernel
theorem dX10_giveBack_11 : decode cX10_giveBack 11 = .ok (.getfield 13, 3) := by decide +kernel
theorem dX10_giveBack_14 : decode cX10_giveBack 14 = .ok (.iload_n 1, 1) := by decide +kernel
theorem dX10_giveBack_15 : decode cX10_giveBack 15 = .ok (.aload_n 0, 1) := by decide +kernel
theorem dX10_giveBack_16 : decode cX10_giveBack 16 = .ok (.getfield 13, 3) := by decide +kernel
theorem dX10_giveBack_19 : decode cX10_giveBack 19 = .ok (.iload_n 1, 1) := by decide +kernel
theorem dX10_giveBack_20 : decode cX10_giveBack 20 = .ok (.baload, 1) := by decide +kernel
theorem dX10_giveBack_21 : decode cX10_giveBack 21 = .ok (.ifCond .eq 16, 3) := by decide +kernel
theorem dX10_giveBack_24 : decode cX10_giveBack 24 = .ok (.aload_n 0, 1) := by decide +kernel
theorem dX10_giveBack_25 : decode cX10_giveBack 25 = .ok (.getfield 17, 3) := by decide +kernel
theorem dX10_giveBack_28 : decode cX10_giveBack 28 = .ok (.iload_n 1, 1) := by decide +kernel
theorem dX10_giveBack_29 : decode cX10_giveBack 29 = .ok (.baload, 1) := by decide +kernel
theorem dX10_giveBack_30 : decode cX10_giveBack 30 = .ok (.ifCond .ne 7, 3) := by decide +kernel
theorem dX10_giveBack_33 : decode cX10_giveBack 33 = .ok (.iconst 1, 1) := by decide +kernel
theorem dX10_giveBack_34 : decode cX10_giveBack 34 = .ok (.goto 4, 3) := by decide +kernel
theorem dX10_giveBack_37 : decode cX10_giveBack 37 = .ok (.iconst 0, 1) := by decide +kernel
theorem dX10_giveBack_38 : decode cX10_giveBack 38 = .ok (.bastore, 1) := by decide +kernel
theorem dX10_giveBack_39 : decode cX10_giveBack 39 = .ok (.iinc 1 1, 3) := by decide +kernel
theorem dX10_giveBack_42 : decode cX10_giveBack 42 = .ok (.goto (-40), 3) := by decide +kernel
theorem dX10_giveBack_45 : decode cX10_giveBack 45 = .ok (.return_, 1) := by decide +kernel
theorem dX10_hang_0 : decode cX10_hang 0 = .ok (.iload_n 2, 1) := by decide +kernel
theorem dX10_hang_1 : decode cX10_hang 1 = .ok (.iconst (-1), 1) := by decide +kernel
theorem dX10_hang_2 : decode cX10_hang 2 = .ok (.if_icmp .ne 4, 3) := by decide +kernel
theorem dX10_hang_5 : decode cX10_hang 5 = .ok (.return_, 1) := by decide +kernel
theorem dX10_hang_6 : decode cX10_hang 6 = .ok (.aload_n 0, 1) := by decide +kernel
theorem dX10_hang_7 : decode cX10_hang 7 = .ok (.getfield 24, 3) := by decide +kernel
theorem dX10_hang_10 : decode cX10_hang 10 = .ok (.iload_n 1, 1) := by decide +kernel
theorem dX10_hang_11 : decode cX10_hang 11 = .ok (.iaload, 1) := by decide +kernel
theorem dX10_hang_12 : decode cX10_hang 12 = .ok (.iconst (-1), 1) := by decide +kernel
theorem dX10_hang_13 : decode cX10_hang 13 = .ok (.if_icmp .ne 13, 3) := by decide +kernel
theorem dX10_hang_16 : decode cX10_hang 16 = .ok (.aload_n 0, 1) := by decide +kernel
theorem dX10_hang_17 : decode cX10_hang 17 = .ok (.getfield 24, 3) := by decide +kernel
theorem dX10_hang_20 : decode cX10_hang 20 = .ok (.iload_n 1, 1) := by decide +kernel
theorem dX10_hang_21 : decode cX10_hang 21 = .ok (.iload_n 2, 1) := by decide +kernel
theorem dX10_hang_22 : decode cX10_hang 22 = .ok (.iastore, 1) := by decide +kernel
theorem dX10_hang_23 : decode cX10_hang 23 = .ok (.goto 15, 3) := by decide +kernel
theorem dX10_hang_26 : decode cX10_hang 26 = .ok (.aload_n 0, 1) := by decide +kernel
theorem dX10_hang_27 : decode cX10_hang 27 = .ok (.getfield 20, 3) := by decide +kernel
theorem dX10_hang_30 : decode cX10_hang 30 = .ok (.aload_n 0, 1) := by decide +kernel
theorem dX10_hang_31 : decode cX10_hang 31 = .ok (.getfield 27, 3) := by decide +kernel
theorem dX10_hang_34 : decode cX10_hang 34 = .ok (.iload_n 1, 1) := by decide +kernel
theorem dX10_hang_35 : decode cX10_hang 35 = .ok (.iaload, 1) := by decide +kernel
theorem dX10_hang_36 : decode cX10_hang 36 = .ok (.iload_n 2, 1) := by decide +kernel
theorem dX10_hang_37 : decode cX10_hang 37 = .ok (.iastore, 1) := by decide +kernel
theorem dX10_hang_38 : decode cX10_hang 38 = .ok (.aload_n 0, 1) := by decide +kernel
theorem dX10_hang_39 : decode cX10_hang 39 = .ok (.getfield 27, 3) := by decide +kernel
theorem dX10_hang_42 : decode cX10_hang 42 = .ok (.iload_n 1, 1) := by decide +kernel
theorem dX10_hang_43 : decode cX10_hang 43 = .ok (.iload_n 2, 1) := by decide +kernel
theorem dX10_hang_44 : decode cX10_hang 44 = .ok (.iastore, 1) := by decide +kernel
theorem dX10_hang_45 : decode cX10_hang 45 = .ok (.aload_n 0, 1) := by decide +kernel
theorem dX10_hang_46 : decode cX10_hang 46 = .ok (.getfield 30, 3) := by decide +kernel
theorem dX10_hang_49 : decode cX10_hang 49 = .ok (.iload_n 1, 1) := by decide +kernel
theorem dX10_hang_50 : decode cX10_hang 50 = .ok (.dup2, 1) := by decide +kernel
theorem dX10_hang_51 : decode cX10_hang 51 = .ok (.iaload, 1) := by decide +kernel
theorem dX10_hang_52 : decode cX10_hang 52 = .ok (.iload_n 3, 1) := by decide +kernel
theorem dX10_hang_53 : decode cX10_hang 53 = .ok (.iadd, 1) := by decide +kernel
theorem dX10_hang_54 : decode cX10_hang 54 = .ok (.iastore, 1) := by decide +kernel
theorem dX10_hang_55 : decode cX10_hang 55 = .ok (.return_, 1) := by decide +kernel
theorem dX10_free_0 : decode cX10_free 0 = .ok (.aload_n 0, 1) := by decide +kernel
theorem dX10_free_1 : decode cX10_free 1 = .ok (.getfield 24, 3) := by decide +kernel
theorem dX10_free_4 : decode cX10_free 4 = .ok (.iload_n 1, 1) := by decide +kernel
theorem dX10_free_5 : decode cX10_free 5 = .ok (.iaload, 1) := by decide +kernel
theorem dX10_free_6 : decode cX10_free 6 = .ok (.istore_n 2, 1) := by decide +kernel
theorem dX10_free_7 : decode cX10_free 7 = .ok (.iload_n 2, 1) := by decide +kernel
theorem dX10_free_8 : decode cX10_free 8 = .ok (.iconst (-1), 1) := by decide +kernel
theorem dX10_free_9 : decode cX10_free 9 = .ok (.if_icmp .eq 20, 3) := by decide +kernel
theorem dX10_free_12 : decode cX10_free 12 = .ok (.aload_n 0, 1) := by decide +kernel
theorem dX10_free_13 : decode cX10_free 13 = .ok (.getfield 13, 3) := by decide +kernel
theorem dX10_free_16 : decode cX10_free 16 = .ok (.iload_n 2, 1) := by decide +kernel
theorem dX10_free_17 : decode cX10_free 17 = .ok (.iconst 0, 1) := by decide +kernel
theorem dX10_free_18 : decode cX10_free 18 = .ok (.bastore, 1) := by decide +kernel
theorem dX10_free_19 : decode cX10_free 19 = .ok (.aload_n 0, 1) := by decide +kernel
theorem dX10_free_20 : decode cX10_free 20 = .ok (.getfield 20, 3) := by decide +kernel
theorem dX10_free_23 : decode cX10_free 23 = .ok (.iload_n 2, 1) := by decide +kernel
theorem dX10_free_24 : decode cX10_free 24 = .ok (.iaload, 1) := by decide +kernel
theorem dX10_free_25 : decode cX10_free 25 = .ok (.istore_n 2, 1) := by decide +kernel
theorem dX10_free_26 : decode cX10_free 26 = .ok (.goto (-19), 3) := by decide +kernel
theorem dX10_free_29 : decode cX10_free 29 = .ok (.aload_n 0, 1) := by decide +kernel
theorem dX10_free_30 : decode cX10_free 30 = .ok (.getfield 24, 3) := by decide +kernel
theorem dX10_free_33 : decode cX10_free 33 = .ok (.iload_n 1, 1) := by decide +kernel
theorem dX10_free_34 : decode cX10_free 34 = .ok (.iconst (-1), 1) := by decide +kernel
theorem dX10_free_35 : decode cX10_free 35 = .ok (.iastore, 1) := by decide +kernel
theorem dX10_free_36 : decode cX10_free 36 = .ok (.aload_n 0, 1) := by decide +kernel
theorem dX10_free_37 : decode cX10_free 37 = .ok (.getfield 27, 3) := by decide +kernel
theorem dX10_free_40 : decode cX10_free 40 = .ok (.iload_n 1, 1) := by decide +kernel
theorem dX10_free_41 : decode cX10_free 41 = .ok (.iconst (-1), 1) := by decide +kernel
theorem dX10_free_42 : decode cX10_free 42 = .ok (.iastore, 1) := by decide +kernel
theorem dX10_free_43 : decode cX10_free 43 = .ok (.aload_n 0, 1) := by decide +kernel
theorem dX10_free_44 : decode cX10_free 44 = .ok (.getfield 30, 3) := by decide +kernel
theorem dX10_free_47 : decode cX10_free 47 = .ok (.iload_n 1, 1) := by decide +kernel
theorem dX10_free_48 : decode cX10_free 48 = .ok (.iconst 0, 1) := by decide +kernel
theorem dX10_free_49 : decode cX10_free 49 = .ok (.iastore, 1) := by decide +kernel
theorem dX10_free_50 : decode cX10_free 50 = .ok (.aload_n 0, 1) := by decide +kernel
theorem dX10_free_51 : decode cX10_free 51 = .ok (.getfield 33, 3) := by decide +kernel
theorem dX10_free_54 : decode cX10_free 54 = .ok (.iload_n 1, 1) := by decide +kernel
theorem dX10_free_55 : decode cX10_free 55 = .ok (.iload_n 1, 1) := by decide +kernel
theorem dX10_free_56 : decode cX10_free 56 = .ok (.ifCond .ne 7, 3) := by decide +kernel
theorem dX10_free_59 : decode cX10_free 59 = .ok (.iconst 1, 1) := by decide +kernel
theorem dX10_free_60 : decode cX10_free 60 = .ok (.goto 4, 3) := by decide +kernel
theorem dX10_free_63 : decode cX10_free 63 = .ok (.iconst 0, 1) := by decide +kernel
theorem dX10_free_64 : decode cX10_free 64 = .ok (.bastore, 1) := by decide +kernel
theorem dX10_free_65 : decode cX10_free 65 = .ok (.return_, 1) := by decide +kernel
theorem dX10_newFile_0 : decode cX10_newFile 0 = .ok (.iconst 1, 1) := by decide +kernel
theorem dX10_newFile_1 : decode cX10_newFile 1 = .ok (.istore_n 1, 1) := by decide +kernel
theorem dX10_newFile_2 : decode cX10_newFile 2 = .ok (.aload_n 0, 1) := by decide +kernel
theorem dX10_newFile_3 : decode cX10_newFile 3 = .ok (.getfield 33, 3) := by decide +kernel
theorem dX10_newFile_6 : decode cX10_newFile 6 = .ok (.iload_n 1, 1) := by decide +kernel
theorem dX10_newFile_7 : decode cX10_newFile 7 = .ok (.baload, 1) := by decide +kernel
theorem dX10_newFile_8 : decode cX10_newFile 8 = .ok (.ifCond .eq 9, 3) := by decide +kernel
theorem dX10_newFile_11 : decode cX10_newFile 11 = .ok (.iinc 1 1, 3) := by decide +kernel
theorem dX10_newFile_14 : decode cX10_newFile 14 = .ok (.goto (-12), 3) := by decide +kernel
theorem dX10_newFile_17 : decode cX10_newFile 17 = .ok (.aload_n 0, 1) := by decide +kernel
theorem dX10_newFile_18 : decode cX10_newFile 18 = .ok (.getfield 33, 3) := by decide +kernel
theorem dX10_newFile_21 : decode cX10_newFile 21 = .ok (.iload_n 1, 1) := by decide +kernel
theorem dX10_newFile_22 : decode cX10_newFile 22 = .ok (.iconst 1, 1) := by decide +kernel
theorem dX10_newFile_23 : decode cX10_newFile 23 = .ok (.bastore, 1) := by decide +kernel
theorem dX10_newFile_24 : decode cX10_newFile 24 = .ok (.aload_n 0, 1) := by decide +kernel
theorem dX10_newFile_25 : decode cX10_newFile 25 = .ok (.getfield 24, 3) := by decide +kernel
theorem dX10_newFile_28 : decode cX10_newFile 28 = .ok (.iload_n 1, 1) := by decide +kernel
theorem dX10_newFile_29 : decode cX10_newFile 29 = .ok (.iconst (-1), 1) := by decide +kernel
theorem dX10_newFile_30 : decode cX10_newFile 30 = .ok (.iastore, 1) := by decide +kernel
theorem dX10_newFile_31 : decode cX10_newFile 31 = .ok (.aload_n 0, 1) := by decide +kernel
theorem dX10_newFile_32 : decode cX10_newFile 32 = .ok (.getfield 27, 3) := by decide +kernel
theorem dX10_newFile_35 : decode cX10_newFile 35 = .ok (.iload_n 1, 1) := by decide +kernel
theorem dX10_newFile_36 : decode cX10_newFile 36 = .ok (.iconst (-1), 1) := by decide +kernel
theorem dX10_newFile_37 : decode cX10_newFile 37 = .ok (.iastore, 1) := by decide +kernel
theorem dX10_newFile_38 : decode cX10_newFile 38 = .ok (.aload_n 0, 1) := by decide +kernel
theorem dX10_newFile_39 : decode cX10_newFile 39 = .ok (.getfield 30, 3) := by decide +kernel
theorem dX10_newFile_42 : decode cX10_newFile 42 = .ok (.iload_n 1, 1) := by decide +kernel
theorem dX10_newFile_43 : decode cX10_newFile 43 = .ok (.iconst 0, 1) := by decide +kernel
theorem dX10_newFile_44 : decode cX10_newFile 44 = .ok (.iastore, 1) := by decide +kernel
theorem dX10_newFile_45 : decode cX10_newFile 45 = .ok (.iload_n 1, 1) := by decide +kernel
theorem dX10_newFile_46 : decode cX10_newFile 46 = .ok (.ireturn, 1) := by decide +kernel
theorem dX10_blockOf_0 : decode cX10_blockOf 0 = .ok (.aload_n 0, 1) := by decide +kernel
theorem dX10_blockOf_1 : decode cX10_blockOf 1 = .ok (.getfield 24, 3) := by decide +kernel
theorem dX10_blockOf_4 : decode cX10_blockOf 4 = .ok (.iload_n 1, 1) := by decide +kernel
theorem dX10_blockOf_5 : decode cX10_blockOf 5 = .ok (.iaload, 1) := by decide +kernel
theorem dX10_blockOf_6 : decode cX10_blockOf 6 = .ok (.istore_n 3, 1) := by decide +kernel
theorem dX10_blockOf_7 : decode cX10_blockOf 7 = .ok (.iconst 0, 1) := by decide +kernel
theorem dX10_blockOf_8 : decode cX10_blockOf 8 = .ok (.istore 4, 2) := by decide +kernel
theorem dX10_blockOf_10 : decode cX10_blockOf 10 = .ok (.iload 4, 2) := by decide +kernel
theorem dX10_blockOf_12 : decode cX10_blockOf 12 = .ok (.iload_n 2, 1) := by decide +kernel
theorem dX10_blockOf_13 : decode cX10_blockOf 13 = .ok (.if_icmp .ge 21, 3) := by decide +kernel
theorem dX10_blockOf_16 : decode cX10_blockOf 16 = .ok (.iload_n 3, 1) := by decide +kernel
theorem dX10_blockOf_17 : decode cX10_blockOf 17 = .ok (.iconst (-1), 1) := by decide +kernel
theorem dX10_blockOf_18 : decode cX10_blockOf 18 = .ok (.if_icmp .eq 16, 3) := by decide +kernel
theorem dX10_blockOf_21 : decode cX10_blockOf 21 = .ok (.aload_n 0, 1) := by decide +kernel
theorem dX10_blockOf_22 : decode cX10_blockOf 22 = .ok (.getfield 20, 3) := by decide +kernel
theorem dX10_blockOf_25 : decode cX10_blockOf 25 = .ok (.iload_n 3, 1) := by decide +kernel
theorem dX10_blockOf_26 : decode cX10_blockOf 26 = .ok (.iaload, 1) := by decide +kernel
theorem dX10_blockOf_27 : decode cX10_blockOf 27 = .ok (.istore_n 3, 1) := by decide +kernel
theorem dX10_blockOf_28 : decode cX10_blockOf 28 = .ok (.iinc 4 1, 3) := by decide +kernel
theorem dX10_blockOf_31 : decode cX10_blockOf 31 = .ok (.goto (-21), 3) := by decide +kernel
theorem dX10_blockOf_34 : decode cX10_blockOf 34 = .ok (.iload_n 3, 1) := by decide +kernel
theorem dX10_blockOf_35 : decode cX10_blockOf 35 = .ok (.ireturn, 1) := by decide +kernel
theorem dX10_byKeys_0 : decode cX10_byKeys 0 = .ok (.aload_n 0, 1) := by decide +kernel
theorem dX10_byKeys_1 : decode cX10_byKeys 1 = .ok (.getfield 147, 3) := by decide +kernel
theorem dX10_byKeys_4 : decode cX10_byKeys 4 = .ok (.ifCond .ne 10, 3) := by decide +kernel
theorem dX10_byKeys_7 : decode cX10_byKeys 7 = .ok (.aload_n 0, 1) := by decide +kernel
theorem dX10_byKeys_8 : decode cX10_byKeys 8 = .ok (.getfield 116, 3) := by decide +kernel
theorem dX10_byKeys_11 : decode cX10_byKeys 11 = .ok (.goto 7, 3) := by decide +kernel
theorem dX10_byKeys_14 : decode cX10_byKeys 14 = .ok (.aload_n 0, 1) := by decide +kernel
theorem dX10_byKeys_15 : decode cX10_byKeys 15 = .ok (.getfield 147, 3) := by decide +kernel
theorem dX10_byKeys_18 : decode cX10_byKeys 18 = .ok (.istore 4, 2) := by decide +kernel
theorem dX10_byKeys_20 : decode cX10_byKeys 20 = .ok (.iconst 0, 1) := by decide +kernel
theorem dX10_byKeys_21 : decode cX10_byKeys 21 = .ok (.istore 5, 2) := by decide +kernel
theorem dX10_byKeys_23 : decode cX10_byKeys 23 = .ok (.iload 5, 2) := by decide +kernel
theorem dX10_byKeys_25 : decode cX10_byKeys 25 = .ok (.iload 4, 2) := by decide +kernel
theorem dX10_byKeys_27 : decode cX10_byKeys 27 = .ok (.if_icmp .ge 101, 3) := by decide +kernel
theorem dX10_byKeys_30 : decode cX10_byKeys 30 = .ok (.aload_n 0, 1) := by decide +kernel
theorem dX10_byKeys_31 : decode cX10_byKeys 31 = .ok (.getfield 147, 3) := by decide +kernel
theorem dX10_byKeys_34 : decode cX10_byKeys 34 = .ok (.ifCond .ne 8, 3) := by decide +kernel
theorem dX10_byKeys_37 : decode cX10_byKeys 37 = .ok (.iload 5, 2) := by decide +kernel
theorem dX10_byKeys_39 : decode cX10_byKeys 39 = .ok (.goto 10, 3) := by decide +kernel
theorem dX10_byKeys_42 : decode cX10_byKeys 42 = .ok (.aload_n 0, 1) := by decide +kernel
theorem dX10_byKeys_43 : decode cX10_byKeys 43 = .ok (.getfield 42, 3) := by decide +kernel
theorem dX10_byKeys_46 : decode cX10_byKeys 46 = .ok (.iload 5, 2) := by decide +kernel
theorem dX10_byKeys_48 : decode cX10_byKeys 48 = .ok (.iaload, 1) := by decide +kernel
theorem dX10_byKeys_49 : decode cX10_byKeys 49 = .ok (.istore 6, 2) := by decide +kernel
theorem dX10_byKeys_51 : decode cX10_byKeys 51 = .ok (.aload_n 1, 1) := by decide +kernel
theorem dX10_byKeys_52 : decode cX10_byKeys 52 = .ok (.iload_n 2, 1) := by decide +kernel
theorem dX10_byKeys_53 : decode cX10_byKeys 53 = .ok (.iload 6, 2) := by decide +kernel
theorem dX10_byKeys_55 : decode cX10_byKeys 55 = .ok (.iadd, 1) := by decide +kernel
theorem dX10_byKeys_56 : decode cX10_byKeys 56 = .ok (.laload, 1) := by decide +kernel
theorem dX10_byKeys_57 : decode cX10_byKeys 57 = .ok (.lstore 7, 2) := by decide +kernel
theorem dX10_byKeys_59 : decode cX10_byKeys 59 = .ok (.aload_n 0, 1) := by decide +kernel
theorem dX10_byKeys_60 : decode cX10_byKeys 60 = .ok (.getfield 7, 3) := by decide +kernel
theorem dX10_byKeys_63 : decode cX10_byKeys 63 = .ok (.iload_n 3, 1) := by decide +kernel
theorem dX10_byKeys_64 : decode cX10_byKeys 64 = .ok (.iload 6, 2) := by decide +kernel
theorem dX10_byKeys_66 : decode cX10_byKeys 66 = .ok (.iadd, 1) := by decide +kernel
theorem dX10_byKeys_67 : decode cX10_byKeys 67 = .ok (.laload, 1) := by decide +kernel
theorem dX10_byKeys_68 : decode cX10_byKeys 68 = .ok (.lstore 9, 2) := by decide +kernel
theorem dX10_byKeys_70 : decode cX10_byKeys 70 = .ok (.lload 7, 2) := by decide +kernel
theorem dX10_byKeys_72 : decode cX10_byKeys 72 = .ok (.lload 9, 2) := by decide +kernel
theorem dX10_byKeys_74 : decode cX10_byKeys 74 = .ok (.lcmp, 1) := by decide +kernel
theorem dX10_byKeys_75 : decode cX10_byKeys 75 = .ok (.ifCond .eq 47, 3) := by decide +kernel
theorem dX10_byKeys_78 : decode cX10_byKeys 78 = .ok (.lload 7, 2) := by decide +kernel
theorem dX10_byKeys_80 : decode cX10_byKeys 80 = .ok (.lload 9, 2) := by decide +kernel
theorem dX10_byKeys_82 : decode cX10_byKeys 82 = .ok (.lcmp, 1) := by decide +kernel
theorem dX10_byKeys_83 : decode cX10_byKeys 83 = .ok (.ifCond .ge 7, 3) := by decide +kernel
theorem dX10_byKeys_86 : decode cX10_byKeys 86 = .ok (.iconst 1, 1) := by decide +kernel
theorem dX10_byKeys_87 : decode cX10_byKeys 87 = .ok (.goto 4, 3) := by decide +kernel
theorem dX10_byKeys_90 : decode cX10_byKeys 90 = .ok (.iconst 0, 1) := by decide +kernel
theorem dX10_byKeys_91 : decode cX10_byKeys 91 = .ok (.aload_n 0, 1) := by decide +kernel
theorem dX10_byKeys_92 : decode cX10_byKeys 92 = .ok (.getfield 147, 3) := by decide +kernel
theorem dX10_byKeys_95 : decode cX10_byKeys 95 = .ok (.ifCond .le 17, 3) := by decide +kernel
theorem dX10_byKeys_98 : decode cX10_byKeys 98 = .ok (.aload_n 0, 1) := by decide +kernel
theorem dX10_byKeys_99 : decode cX10_byKeys 99 = .ok (.getfield 45, 3) := by decide +kernel
theorem dX10_byKeys_102 : decode cX10_byKeys 102 = .ok (.iload 5, 2) := by decide +kernel
theorem dX10_byKeys_104 : decode cX10_byKeys 104 = .ok (.baload, 1) := by decide +kernel
theorem dX10_byKeys_105 : decode cX10_byKeys 105 = .ok (.ifCond .eq 7, 3) := by decide +kernel
theorem dX10_byKeys_108 : decode cX10_byKeys 108 = .ok (.iconst 1, 1) := by decide +kernel
theorem dX10_byKeys_109 : decode cX10_byKeys 109 = .ok (.goto 4, 3) := by decide +kernel
theorem dX10_byKeys_112 : decode cX10_byKeys 112 = .ok (.iconst 0, 1) := by decide +kernel
theorem dX10_byKeys_113 : decode cX10_byKeys 113 = .ok (.if_icmp .ne 7, 3) := by decide +kernel
theorem dX10_byKeys_116 : decode cX10_byKeys 116 = .ok (.iconst 1, 1) := by decide +kernel
theorem dX10_byKeys_117 : decode cX10_byKeys 117 = .ok (.goto 4, 3) := by decide +kernel
theorem dX10_byKeys_120 : decode cX10_byKeys 120 = .ok (.iconst (-1), 1) := by decide +kernel
theorem dX10_byKeys_121 : decode cX10_byKeys 121 = .ok (.ireturn, 1) := by decide +kernel
theorem dX10_byKeys_122 : decode cX10_byKeys 122 = .ok (.iinc 5 1, 3) := by decide +kernel
theorem dX10_byKeys_125 : decode cX10_byKeys 125 = .ok (.goto (-102), 3) := by decide +kernel
theorem dX10_byKeys_128 : decode cX10_byKeys 128 = .ok (.iconst 0, 1) := by decide +kernel
theorem dX10_byKeys_129 : decode cX10_byKeys 129 = .ok (.ireturn, 1) := by decide +kernel
theorem dX10_before_0 : decode cX10_before 0 = .ok (.aload_n 0, 1) := by decide +kernel
theorem dX10_before_1 : decode cX10_before 1 = .ok (.aload_n 0, 1) := by decide +kernel
theorem dX10_before_2 : decode cX10_before 2 = .ok (.getfield 7, 3) := by decide +kernel
theorem dX10_before_5 : decode cX10_before 5 = .ok (.iload_n 1, 1) := by decide +kernel
theorem dX10_before_6 : decode cX10_before 6 = .ok (.iload_n 2, 1) := by decide +kernel
theorem dX10_before_7 : decode cX10_before 7 = .ok (.invokevirtual 150, 3) := by decide +kernel
theorem dX10_before_10 : decode cX10_before 10 = .ok (.istore_n 3, 1) := by decide +kernel
theorem dX10_before_11 : decode cX10_before 11 = .ok (.iload_n 3, 1) := by decide +kernel
theorem dX10_before_12 : decode cX10_before 12 = .ok (.ifCond .eq 15, 3) := by decide +kernel
theorem dX10_before_15 : decode cX10_before 15 = .ok (.iload_n 3, 1) := by decide +kernel
theorem dX10_before_16 : decode cX10_before 16 = .ok (.ifCond .ge 7, 3) := by decide +kernel
theorem dX10_before_19 : decode cX10_before 19 = .ok (.iconst 1, 1) := by decide +kernel
theorem dX10_before_20 : decode cX10_before 20 = .ok (.goto 38, 3) := by decide +kernel
theorem dX10_before_23 : decode cX10_before 23 = .ok (.iconst 0, 1) := by decide +kernel
theorem dX10_before_24 : decode cX10_before 24 = .ok (.goto 34, 3) := by decide +kernel
theorem dX10_before_27 : decode cX10_before 27 = .ok (.aload_n 0, 1) := by decide +kernel
theorem dX10_before_28 : decode cX10_before 28 = .ok (.getfield 7, 3) := by decide +kernel
theorem dX10_before_31 : decode cX10_before 31 = .ok (.iload_n 1, 1) := by decide +kernel
theorem dX10_before_32 : decode cX10_before 32 = .ok (.aload_n 0, 1) := by decide +kernel
theorem dX10_before_33 : decode cX10_before 33 = .ok (.getfield 116, 3) := by decide +kernel
theorem dX10_before_36 : decode cX10_before 36 = .ok (.iadd, 1) := by decide +kernel
theorem dX10_before_37 : decode cX10_before 37 = .ok (.laload, 1) := by decide +kernel
theorem dX10_before_38 : decode cX10_before 38 = .ok (.aload_n 0, 1) := by decide +kernel
theorem dX10_before_39 : decode cX10_before 39 = .ok (.getfield 7, 3) := by decide +kernel
theorem dX10_before_42 : decode cX10_before 42 = .ok (.iload_n 2, 1) := by decide +kernel
theorem dX10_before_43 : decode cX10_before 43 = .ok (.aload_n 0, 1) := by decide +kernel
theorem dX10_before_44 : decode cX10_before 44 = .ok (.getfield 116, 3) := by decide +kernel
theorem dX10_before_47 : decode cX10_before 47 = .ok (.iadd, 1) := by decide +kernel
theorem dX10_before_48 : decode cX10_before 48 = .ok (.laload, 1) := by decide +kernel
theorem dX10_before_49 : decode cX10_before 49 = .ok (.lcmp, 1) := by decide +kernel
theorem dX10_before_50 : decode cX10_before 50 = .ok (.ifCond .ge 7, 3) := by decide +kernel
theorem dX10_before_53 : decode cX10_before 53 = .ok (.iconst 1, 1) := by decide +kernel
theorem dX10_before_54 : decode cX10_before 54 = .ok (.goto 4, 3) := by decide +kernel
theorem dX10_before_57 : decode cX10_before 57 = .ok (.iconst 0, 1) := by decide +kernel
theorem dX10_before_58 : decode cX10_before 58 = .ok (.ireturn, 1) := by decide +kernel
theorem dX10_sums_0 : decode cX10_sums 0 = .ok (.aload_n 0, 1) := by decide +kernel
theorem dX10_sums_1 : decode cX10_sums 1 = .ok (.getfield 154, 3) := by decide +kernel
theorem dX10_sums_4 : decode cX10_sums 4 = .ok (.iconst 2, 1) := by decide +kernel
theorem dX10_sums_5 : decode cX10_sums 5 = .ok (.if_icmp .ne 14, 3) := by decide +kernel
theorem dX10_sums_8 : decode cX10_sums 8 = .ok (.aload_n 0, 1) := by decide +kernel
theorem dX10_sums_9 : decode cX10_sums 9 = .ok (.getfield 147, 3) := by decide +kernel
theorem dX10_sums_12 : decode cX10_sums 12 = .ok (.ifCond .le 7, 3) := by decide +kernel
theorem dX10_sums_15 : decode cX10_sums 15 = .ok (.iconst 1, 1) := by decide +kernel
theorem dX10_sums_16 : decode cX10_sums 16 = .ok (.goto 4, 3) := by decide +kernel
theorem dX10_sums_19 : decode cX10_sums 19 = .ok (.iconst 0, 1) := by decide +kernel
theorem dX10_sums_20 : decode cX10_sums 20 = .ok (.istore_n 1, 1) := by decide +kernel
theorem dX10_sums_21 : decode cX10_sums 21 = .ok (.iconst 0, 1) := by decide +kernel
theorem dX10_sums_22 : decode cX10_sums 22 = .ok (.istore_n 2, 1) := by decide +kernel
theorem dX10_sums_23 : decode cX10_sums 23 = .ok (.iload_n 2, 1) := by decide +kernel
theorem dX10_sums_24 : decode cX10_sums 24 = .ok (.aload_n 0, 1) := by decide +kernel
theorem dX10_sums_25 : decode cX10_sums 25 = .ok (.getfield 147, 3) := by decide +kernel
theorem dX10_sums_28 : decode cX10_sums 28 = .ok (.if_icmp .ge 34, 3) := by decide +kernel
theorem dX10_sums_31 : decode cX10_sums 31 = .ok (.iload_n 1, 1) := by decide +kernel
theorem dX10_sums_32 : decode cX10_sums 32 = .ok (.ifCond .eq 22, 3) := by decide +kernel
theorem dX10_sums_35 : decode cX10_sums 35 = .ok (.aload_n 0, 1) := by decide +kernel
theorem dX10_sums_36 : decode cX10_sums 36 = .ok (.getfield 42, 3) := by decide +kernel
theorem dX10_sums_39 : decode cX10_sums 39 = .ok (.iload_n 2, 1) := by decide +kernel
theorem dX10_sums_40 : decode cX10_sums 40 = .ok (.iaload, 1) := by decide +kernel
theorem dX10_sums_41 : decode cX10_sums 41 = .ok (.aload_n 0, 1) := by decide +kernel
theorem dX10_sums_42 : decode cX10_sums 42 = .ok (.getfield 116, 3) := by decide +kernel
theorem dX10_sums_45 : decode cX10_sums 45 = .ok (.iconst 1, 1) := by decide +kernel
theorem dX10_sums_46 : decode cX10_sums 46 = .ok (.isub, 1) := by decide +kernel
theorem dX10_sums_47 : decode cX10_sums 47 = .ok (.if_icmp .eq 7, 3) := by decide +kernel
theorem dX10_sums_50 : decode cX10_sums 50 = .ok (.iconst 1, 1) := by decide +kernel
theorem dX10_sums_51 : decode cX10_sums 51 = .ok (.goto 4, 3) := by decide +kernel
theorem dX10_sums_54 : decode cX10_sums 54 = .ok (.iconst 0, 1) := by decide +kernel
theorem dX10_sums_55 : decode cX10_sums 55 = .ok (.istore_n 1, 1) := by decide +kernel
theorem dX10_sums_56 : decode cX10_sums 56 = .ok (.iinc 2 1, 3) := by decide +kernel
theorem dX10_sums_59 : decode cX10_sums 59 = .ok (.goto (-36), 3) := by decide +kernel
theorem dX10_sums_62 : decode cX10_sums 62 = .ok (.iload_n 1, 1) := by decide +kernel
theorem dX10_sums_63 : decode cX10_sums 63 = .ok (.ireturn, 1) := by decide +kernel
theorem dX10_beginRun_0 : decode cX10_beginRun 0 = .ok (.aload_n 0, 1) := by decide +kernel
theorem dX10_beginRun_1 : decode cX10_beginRun 1 = .ok (.aload_n 0, 1) := by decide +kernel
theorem dX10_beginRun_2 : decode cX10_beginRun 2 = .ok (.invokevirtual 157, 3) := by decide +kernel
theorem dX10_beginRun_5 : decode cX10_beginRun 5 = .ok (.putfield 161, 3) := by decide +kernel
theorem dX10_beginRun_8 : decode cX10_beginRun 8 = .ok (.aload_n 0, 1) := by decide +kernel
theorem dX10_beginRun_9 : decode cX10_beginRun 9 = .ok (.iconst 0, 1) := by decide +kernel
theorem dX10_beginRun_10 : decode cX10_beginRun 10 = .ok (.putfield 164, 3) := by decide +kernel
theorem dX10_beginRun_13 : decode cX10_beginRun 13 = .ok (.aload_n 0, 1) := by decide +kernel
theorem dX10_beginRun_14 : decode cX10_beginRun 14 = .ok (.iconst 0, 1) := by decide +kernel
theorem dX10_beginRun_15 : decode cX10_beginRun 15 = .ok (.putfield 167, 3) := by decide +kernel
theorem dX10_beginRun_18 : decode cX10_beginRun 18 = .ok (.return_, 1) := by decide +kernel
theorem dX10_writePage_0 : decode cX10_writePage 0 = .ok (.aload_n 0, 1) := by decide +kernel
theorem dX10_writePage_1 : decode cX10_writePage 1 = .ok (.getfield 164, 3) := by decide +kernel
theorem dX10_writePage_4 : decode cX10_writePage 4 = .ok (.istore_n 1, 1) := by decide +kernel
theorem dX10_writePage_5 : decode cX10_writePage 5 = .ok (.aload_n 0, 1) := by decide +kernel
theorem dX10_writePage_6 : decode cX10_writePage 6 = .ok (.aload_n 0, 1) := by decide +kernel
theorem dX10_writePage_7 : decode cX10_writePage 7 = .ok (.getfield 48, 3) := by decide +kernel
theorem dX10_writePage_10 : decode cX10_writePage 10 = .ok (.iload_n 1, 1) := by decide +kernel
theorem dX10_writePage_11 : decode cX10_writePage 11 = .ok (.invokevirtual 171, 3) := by decide +kernel
theorem dX10_writePage_14 : decode cX10_writePage 14 = .ok (.istore_n 2, 1) := by decide +kernel
theorem dX10_writePage_15 : decode cX10_writePage 15 = .ok (.aload_n 0, 1) := by decide +kernel
theorem dX10_writePage_16 : decode cX10_writePage 16 = .ok (.aload_n 0, 1) := by decide +kernel
theorem dX10_writePage_17 : decode cX10_writePage 17 = .ok (.getfield 161, 3) := by decide +kernel
theorem dX10_writePage_20 : decode cX10_writePage 20 = .ok (.iload_n 2, 1) := by decide +kernel
theorem dX10_writePage_21 : decode cX10_writePage 21 = .ok (.iload_n 1, 1) := by decide +kernel
theorem dX10_writePage_22 : decode cX10_writePage 22 = .ok (.invokevirtual 175, 3) := by decide +kernel
theorem dX10_writePage_25 : decode cX10_writePage 25 = .ok (.aload_n 0, 1) := by decide +kernel
theorem dX10_writePage_26 : decode cX10_writePage 26 = .ok (.iconst 0, 1) := by decide +kernel
theorem dX10_writePage_27 : decode cX10_writePage 27 = .ok (.putfield 164, 3) := by decide +kernel
theorem dX10_writePage_30 : decode cX10_writePage 30 = .ok (.return_, 1) := by decide +kernel
theorem dX10_toPage_0 : decode cX10_toPage 0 = .ok (.iconst 0, 1) := by decide +kernel
theorem dX10_toPage_1 : decode cX10_toPage 1 = .ok (.istore_n 3, 1) := by decide +kernel
theorem dX10_toPage_2 : decode cX10_toPage 2 = .ok (.iload_n 3, 1) := by decide +kernel
theorem dX10_toPage_3 : decode cX10_toPage 3 = .ok (.aload_n 0, 1) := by decide +kernel
theorem dX10_toPage_4 : decode cX10_toPage 4 = .ok (.getfield 116, 3) := by decide +kernel
theorem dX10_toPage_7 : decode cX10_toPage 7 = .ok (.if_icmp .gt 32, 3) := by decide +kernel
theorem dX10_toPage_10 : decode cX10_toPage 10 = .ok (.aload_n 0, 1) := by decide +kernel
theorem dX10_toPage_11 : decode cX10_toPage 11 = .ok (.getfield 48, 3) := by decide +kernel
theorem dX10_toPage_14 : decode cX10_toPage 14 = .ok (.aload_n 0, 1) := by decide +kernel
theorem dX10_toPage_15 : decode cX10_toPage 15 = .ok (.getfield 164, 3) := by decide +kernel
theorem dX10_toPage_18 : decode cX10_toPage 18 = .ok (.aload_n 0, 1) := by decide +kernel
theorem dX10_toPage_19 : decode cX10_toPage 19 = .ok (.getfield 116, 3) := by decide +kernel
theorem dX10_toPage_22 : decode cX10_toPage 22 = .ok (.iconst 1, 1) := by decide +kernel
theorem dX10_toPage_23 : decode cX10_toPage 23 = .ok (.iadd, 1) := by decide +kernel
theorem dX10_toPage_24 : decode cX10_toPage 24 = .ok (.imul, 1) := by decide +kernel
theorem dX10_toPage_25 : decode cX10_toPage 25 = .ok (.iload_n 3, 1) := by decide +kernel
theorem dX10_toPage_26 : decode cX10_toPage 26 = .ok (.iadd, 1) := by decide +kernel
theorem dX10_toPage_27 : decode cX10_toPage 27 = .ok (.aload_n 1, 1) := by decide +kernel
theorem dX10_toPage_28 : decode cX10_toPage 28 = .ok (.iload_n 2, 1) := by decide +kernel
theorem dX10_toPage_29 : decode cX10_toPage 29 = .ok (.iload_n 3, 1) := by decide +kernel
theorem dX10_toPage_30 : decode cX10_toPage 30 = .ok (.iadd, 1) := by decide +kernel
theorem dX10_toPage_31 : decode cX10_toPage 31 = .ok (.laload, 1) := by decide +kernel
theorem dX10_toPage_32 : decode cX10_toPage 32 = .ok (.lastore, 1) := by decide +kernel
theorem dX10_toPage_33 : decode cX10_toPage 33 = .ok (.iinc 3 1, 3) := by decide +kernel
theorem dX10_toPage_36 : decode cX10_toPage 36 = .ok (.goto (-34), 3) := by decide +kernel
theorem dX10_toPage_39 : decode cX10_toPage 39 = .ok (.aload_n 0, 1) := by decide +kernel
theorem dX10_toPage_40 : decode cX10_toPage 40 = .ok (.dup, 1) := by decide +kernel
theorem dX10_toPage_41 : decode cX10_toPage 41 = .ok (.getfield 164, 3) := by decide +kernel
theorem dX10_toPage_44 : decode cX10_toPage 44 = .ok (.iconst 1, 1) := by decide +kernel
theorem dX10_toPage_45 : decode cX10_toPage 45 = .ok (.iadd, 1) := by decide +kernel
theorem dX10_toPage_46 : decode cX10_toPage 46 = .ok (.putfield 164, 3) := by decide +kernel
theorem dX10_toPage_49 : decode cX10_toPage 49 = .ok (.aload_n 0, 1) := by decide +kernel
theorem dX10_toPage_50 : decode cX10_toPage 50 = .ok (.getfield 164, 3) := by decide +kernel
theorem dX10_toPage_53 : decode cX10_toPage 53 = .ok (.aload_n 0, 1) := by decide +kernel
theorem dX10_toPage_54 : decode cX10_toPage 54 = .ok (.invokevirtual 179, 3) := by decide +kernel
theorem dX10_toPage_57 : decode cX10_toPage 57 = .ok (.if_icmp .ne 7, 3) := by decide +kernel
theorem dX10_toPage_60 : decode cX10_toPage 60 = .ok (.aload_n 0, 1) := by decide +kernel
theorem dX10_toPage_61 : decode cX10_toPage 61 = .ok (.invokevirtual 182, 3) := by decide +kernel
theorem dX10_toPage_64 : decode cX10_toPage 64 = .ok (.return_, 1) := by decide +kernel
theorem dX10_out_0 : decode cX10_out 0 = .ok (.aload_n 0, 1) := by decide +kernel
theorem dX10_out_1 : decode cX10_out 1 = .ok (.getfield 154, 3) := by decide +kernel
theorem dX10_out_4 : decode cX10_out 4 = .ok (.ifCond .ne 13, 3) := by decide +kernel
theorem dX10_out_7 : decode cX10_out 7 = .ok (.aload_n 0, 1) := by decide +kernel
theorem dX10_out_8 : decode cX10_out 8 = .ok (.aload_n 0, 1) := by decide +kernel
theorem dX10_out_9 : decode cX10_out 9 = .ok (.getfield 7, 3) := by decide +kernel
theorem dX10_out_12 : decode cX10_out 12 = .ok (.iload_n 1, 1) := by decide +kernel
theorem dX10_out_13 : decode cX10_out 13 = .ok (.invokevirtual 185, 3) := by decide +kernel
theorem dX10_out_16 : decode cX10_out 16 = .ok (.return_, 1) := by decide +kernel
theorem dX10_out_17 : decode cX10_out 17 = .ok (.aload_n 0, 1) := by decide +kernel
theorem dX10_out_18 : decode cX10_out 18 = .ok (.getfield 167, 3) := by decide +kernel
theorem dX10_out_21 : decode cX10_out 21 = .ok (.ifCond .eq 51, 3) := by decide +kernel
theorem dX10_out_24 : decode cX10_out 24 = .ok (.aload_n 0, 1) := by decide +kernel
theorem dX10_out_25 : decode cX10_out 25 = .ok (.aload_n 0, 1) := by decide +kernel
theorem dX10_out_26 : decode cX10_out 26 = .ok (.getfield 51, 3) := by decide +kernel
theorem dX10_out_29 : decode cX10_out 29 = .ok (.iconst 0, 1) := by decide +kernel
theorem dX10_out_30 : decode cX10_out 30 = .ok (.iload_n 1, 1) := by decide +kernel
theorem dX10_out_31 : decode cX10_out 31 = .ok (.invokevirtual 150, 3) := by decide +kernel
theorem dX10_out_34 : decode cX10_out 34 = .ok (.ifCond .ne 38, 3) := by decide +kernel
theorem dX10_out_37 : decode cX10_out 37 = .ok (.aload_n 0, 1) := by decide +kernel
theorem dX10_out_38 : decode cX10_out 38 = .ok (.invokevirtual 189, 3) := by decide +kernel
theorem dX10_out_41 : decode cX10_out 41 = .ok (.ifCond .eq 30, 3) := by decide +kernel
theorem dX10_out_44 : decode cX10_out 44 = .ok (.aload_n 0, 1) := by decide +kernel
theorem dX10_out_45 : decode cX10_out 45 = .ok (.getfield 51, 3) := by decide +kernel
theorem dX10_out_48 : decode cX10_out 48 = .ok (.aload_n 0, 1) := by decide +kernel
theorem dX10_out_49 : decode cX10_out 49 = .ok (.getfield 116, 3) := by decide +kernel
theorem dX10_out_52 : decode cX10_out 52 = .ok (.iconst 1, 1) := by decide +kernel
theorem dX10_out_53 : decode cX10_out 53 = .ok (.isub, 1) := by decide +kernel
theorem dX10_out_54 : decode cX10_out 54 = .ok (.dup2, 1) := by decide +kernel
theorem dX10_out_55 : decode cX10_out 55 = .ok (.laload, 1) := by decide +kernel
theorem dX10_out_56 : decode cX10_out 56 = .ok (.aload_n 0, 1) := by decide +kernel
theorem dX10_out_57 : decode cX10_out 57 = .ok (.getfield 7, 3) := by decide +kernel
theorem dX10_out_60 : decode cX10_out 60 = .ok (.iload_n 1, 1) := by decide +kernel
theorem dX10_out_61 : decode cX10_out 61 = .ok (.aload_n 0, 1) := by decide +kernel
theorem dX10_out_62 : decode cX10_out 62 = .ok (.getfield 116, 3) := by decide +kernel
theorem dX10_out_65 : decode cX10_out 65 = .ok (.iadd, 1) := by decide +kernel
theorem dX10_out_66 : decode cX10_out 66 = .ok (.iconst 1, 1) := by decide +kernel
theorem dX10_out_67 : decode cX10_out 67 = .ok (.isub, 1) := by decide +kernel
theorem dX10_out_68 : decode cX10_out 68 = .ok (.laload, 1) := by decide +kernel
theorem dX10_out_69 : decode cX10_out 69 = .ok (.ladd, 1) := by decide +kernel
theorem dX10_out_70 : decode cX10_out 70 = .ok (.lastore, 1) := by decide +kernel
theorem dX10_out_71 : decode cX10_out 71 = .ok (.return_, 1) := by decide +kernel
theorem dX10_out_72 : decode cX10_out 72 = .ok (.aload_n 0, 1) := by decide +kernel
theorem dX10_out_73 : decode cX10_out 73 = .ok (.getfield 167, 3) := by decide +kernel
theorem dX10_out_76 : decode cX10_out 76 = .ok (.ifCond .eq 12, 3) := by decide +kernel
theorem dX10_out_79 : decode cX10_out 79 = .ok (.aload_n 0, 1) := by decide +kernel
theorem dX10_out_80 : decode cX10_out 80 = .ok (.aload_n 0, 1) := by decide +kernel
theorem dX10_out_81 : decode cX10_out 81 = .ok (.getfield 51, 3) := by decide +kernel
theorem dX10_out_84 : decode cX10_out 84 = .ok (.iconst 0, 1) := by decide +kernel
theorem dX10_out_85 : decode cX10_out 85 = .ok (.invokevirtual 185, 3) := by decide +kernel
theorem dX10_out_88 : decode cX10_out 88 = .ok (.iconst 0, 1) := by decide +kernel
theorem dX10_out_89 : decode cX10_out 89 = .ok (.istore_n 2, 1) := by decide +kernel
theorem dX10_out_90 : decode cX10_out 90 = .ok (.iload_n 2, 1) := by decide +kernel
theorem dX10_out_91 : decode cX10_out 91 = .ok (.aload_n 0, 1) := by decide +kernel
theorem dX10_out_92 : decode cX10_out 92 = .ok (.getfield 116, 3) := by decide +kernel
theorem dX10_out_95 : decode cX10_out 95 = .ok (.if_icmp .gt 23, 3) := by decide +kernel
theorem dX10_out_98 : decode cX10_out 98 = .ok (.aload_n 0, 1) := by decide +kernel
theorem dX10_out_99 : decode cX10_out 99 = .ok (.getfield 51, 3) := by decide +kernel
theorem dX10_out_102 : decode cX10_out 102 = .ok (.iload_n 2, 1) := by decide +kernel
theorem dX10_out_103 : decode cX10_out 103 = .ok (.aload_n 0, 1) := by decide +kernel
theorem dX10_out_104 : decode cX10_out 104 = .ok (.getfield 7, 3) := by decide +kernel
theorem dX10_out_107 : decode cX10_out 107 = .ok (.iload_n 1, 1) := by decide +kernel
theorem dX10_out_108 : decode cX10_out 108 = .ok (.iload_n 2, 1) := by decide +kernel
theorem dX10_out_109 : decode cX10_out 109 = .ok (.iadd, 1) := by decide +kernel
theorem dX10_out_110 : decode cX10_out 110 = .ok (.laload, 1) := by decide +kernel
theorem dX10_out_111 : decode cX10_out 111 = .ok (.lastore, 1) := by decide +kernel
theorem dX10_out_112 : decode cX10_out 112 = .ok (.iinc 2 1, 3) := by decide +kernel
theorem dX10_out_115 : decode cX10_out 115 = .ok (.goto (-25), 3) := by decide +kernel
theorem dX10_out_118 : decode cX10_out 118 = .ok (.aload_n 0, 1) := by decide +kernel
theorem dX10_out_119 : decode cX10_out 119 = .ok (.iconst 1, 1) := by decide +kernel
theorem dX10_out_120 : decode cX10_out 120 = .ok (.putfield 167, 3) := by decide +kernel
theorem dX10_out_123 : decode cX10_out 123 = .ok (.return_, 1) := by decide +kernel
theorem dX10_endRun_0 : decode cX10_endRun 0 = .ok (.aload_n 0, 1) := by decide +kernel
theorem dX10_endRun_1 : decode cX10_endRun 1 = .ok (.getfield 167, 3) := by decide +kernel
theorem dX10_endRun_4 : decode cX10_endRun 4 = .ok (.ifCond .eq 12, 3) := by decide +kernel
theorem dX10_endRun_7 : decode cX10_endRun 7 = .ok (.aload_n 0, 1) := by decide +kernel
theorem dX10_endRun_8 : decode cX10_endRun 8 = .ok (.aload_n 0, 1) := by decide +kernel
theorem dX10_endRun_9 : decode cX10_endRun 9 = .ok (.getfield 51, 3) := by decide +kernel
theorem dX10_endRun_12 : decode cX10_endRun 12 = .ok (.iconst 0, 1) := by decide +kernel
theorem dX10_endRun_13 : decode cX10_endRun 13 = .ok (.invokevirtual 185, 3) := by decide +kernel
theorem dX10_endRun_16 : decode cX10_endRun 16 = .ok (.aload_n 0, 1) := by decide +kernel
theorem dX10_endRun_17 : decode cX10_endRun 17 = .ok (.iconst 0, 1) := by decide +kernel
theorem dX10_endRun_18 : decode cX10_endRun 18 = .ok (.putfield 167, 3) := by decide +kernel
theorem dX10_endRun_21 : decode cX10_endRun 21 = .ok (.aload_n 0, 1) := by decide +kernel
theorem dX10_endRun_22 : decode cX10_endRun 22 = .ok (.getfield 164, 3) := by decide +kernel
theorem dX10_endRun_25 : decode cX10_endRun 25 = .ok (.ifCond .le 7, 3) := by decide +kernel
theorem dX10_endRun_28 : decode cX10_endRun 28 = .ok (.aload_n 0, 1) := by decide +kernel
theorem dX10_endRun_29 : decode cX10_endRun 29 = .ok (.invokevirtual 182, 3) := by decide +kernel
theorem dX10_endRun_32 : decode cX10_endRun 32 = .ok (.return_, 1) := by decide +kernel
theorem dX10_width_0 : decode cX10_width 0 = .ok (.aload_n 0, 1) := by decide +kernel
theorem dX10_width_1 : decode cX10_width 1 = .ok (.iload_n 1, 1) := by decide +kernel
theorem dX10_width_2 : decode cX10_width 2 = .ok (.iconst 1, 1) := by decide +kernel
theorem dX10_width_3 : decode cX10_width 3 = .ok (.iconst 4, 1) := by decide +kernel
theorem dX10_width_4 : decode cX10_width 4 = .ok (.invokestatic 193, 3) := by decide +kernel
theorem dX10_width_7 : decode cX10_width 7 = .ok (.ifCond .ne 7, 3) := by decide +kernel
theorem dX10_width_10 : decode cX10_width 10 = .ok (.iconst 1, 1) := by decide +kernel
theorem dX10_width_11 : decode cX10_width 11 = .ok (.goto 36, 3) := by decide +kernel
theorem dX10_width_14 : decode cX10_width 14 = .ok (.aload_n 0, 1) := by decide +kernel
theorem dX10_width_15 : decode cX10_width 15 = .ok (.getfield 197, 3) := by decide +kernel
theorem dX10_width_18 : decode cX10_width 18 = .ok (.ifCond .ne 24, 3) := by decide +kernel
theorem dX10_width_21 : decode cX10_width 21 = .ok (.aload_n 0, 1) := by decide +kernel
theorem dX10_width_22 : decode cX10_width 22 = .ok (.getfield 200, 3) := by decide +kernel
theorem dX10_width_25 : decode cX10_width 25 = .ok (.ifCond .gt 17, 3) := by decide +kernel
theorem dX10_width_28 : decode cX10_width 28 = .ok (.aload_n 0, 1) := by decide +kernel
theorem dX10_width_29 : decode cX10_width 29 = .ok (.getfield 30, 3) := by decide +kernel
theorem dX10_width_32 : decode cX10_width 32 = .ok (.iconst 0, 1) := by decide +kernel
theorem dX10_width_33 : decode cX10_width 33 = .ok (.iaload, 1) := by decide +kernel
theorem dX10_width_34 : decode cX10_width 34 = .ok (.aload_n 0, 1) := by decide +kernel
theorem dX10_width_35 : decode cX10_width 35 = .ok (.getfield 203, 3) := by decide +kernel
theorem dX10_width_38 : decode cX10_width 38 = .ok (.iadd, 1) := by decide +kernel
theorem dX10_width_39 : decode cX10_width 39 = .ok (.ifCond .le 7, 3) := by decide +kernel
theorem dX10_width_42 : decode cX10_width 42 = .ok (.iconst 2, 1) := by decide +kernel
theorem dX10_width_43 : decode cX10_width 43 = .ok (.goto 4, 3) := by decide +kernel
theorem dX10_width_46 : decode cX10_width 46 = .ok (.iconst 0, 1) := by decide +kernel
theorem dX10_width_47 : decode cX10_width 47 = .ok (.putfield 125, 3) := by decide +kernel
theorem dX10_width_50 : decode cX10_width 50 = .ok (.aload_n 0, 1) := by decide +kernel
theorem dX10_width_51 : decode cX10_width 51 = .ok (.getfield 125, 3) := by decide +kernel
theorem dX10_width_54 : decode cX10_width 54 = .ok (.ifCond .le 4, 3) := by decide +kernel
theorem dX10_width_57 : decode cX10_width 57 = .ok (.return_, 1) := by decide +kernel
theorem dX10_width_58 : decode cX10_width 58 = .ok (.aload_n 0, 1) := by decide +kernel
theorem dX10_width_59 : decode cX10_width 59 = .ok (.iload_n 1, 1) := by decide +kernel
theorem dX10_width_60 : decode cX10_width 60 = .ok (.putfield 116, 3) := by decide +kernel
theorem dX10_width_63 : decode cX10_width 63 = .ok (.aload_n 0, 1) := by decide +kernel
theorem dX10_width_64 : decode cX10_width 64 = .ok (.iconst 0, 1) := by decide +kernel
theorem dX10_width_65 : decode cX10_width 65 = .ok (.putfield 147, 3) := by decide +kernel
theorem dX10_width_68 : decode cX10_width 68 = .ok (.return_, 1) := by decide +kernel
theorem dX10_key_0 : decode cX10_key 0 = .ok (.iconst 0, 1) := by decide +kernel
theorem dX10_key_1 : decode cX10_key 1 = .ok (.istore_n 3, 1) := by decide +kernel
theorem dX10_key_2 : decode cX10_key 2 = .ok (.iconst 0, 1) := by decide +kernel
theorem dX10_key_3 : decode cX10_key 3 = .ok (.istore 4, 2) := by decide +kernel
theorem dX10_key_5 : decode cX10_key 5 = .ok (.iload 4, 2) := by decide +kernel
theorem dX10_key_7 : decode cX10_key 7 = .ok (.aload_n 0, 1) := by decide +kernel
theorem dX10_key_8 : decode cX10_key 8 = .ok (.getfield 147, 3) := by decide +kernel
theorem dX10_key_11 : decode cX10_key 11 = .ok (.if_icmp .ge 30, 3) := by decide +kernel
theorem dX10_key_14 : decode cX10_key 14 = .ok (.iload_n 3, 1) := by decide +kernel
theorem dX10_key_15 : decode cX10_key 15 = .ok (.ifCond .ne 14, 3) := by decide +kernel
theorem dX10_key_18 : decode cX10_key 18 = .ok (.aload_n 0, 1) := by decide +kernel
theorem dX10_key_19 : decode cX10_key 19 = .ok (.getfield 42, 3) := by decide +kernel
theorem dX10_key_22 : decode cX10_key 22 = .ok (.iload 4, 2) := by decide +kernel
theorem dX10_key_24 : decode cX10_key 24 = .ok (.iaload, 1) := by decide +kernel
theorem dX10_key_25 : decode cX10_key 25 = .ok (.iload_n 1, 1) := by decide +kernel
theorem dX10_key_26 : decode cX10_key 26 = .ok (.if_icmp .ne 7, 3) := by decide +kernel
theorem dX10_key_29 : decode cX10_key 29 = .ok (.iconst 1, 1) := by decide +kernel
theorem dX10_key_30 : decode cX10_key 30 = .ok (.goto 4, 3) := by decide +kernel
theorem dX10_key_33 : decode cX10_key 33 = .ok (.iconst 0, 1) := by decide +kernel
theorem dX10_key_34 : decode cX10_key 34 = .ok (.istore_n 3, 1) := by decide +kernel
theorem dX10_key_35 : decode cX10_key 35 = .ok (.iinc 4 1, 3) := by decide +kernel
theorem dX10_key_38 : decode cX10_key 38 = .ok (.goto (-33), 3) := by decide +kernel
theorem dX10_key_41 : decode cX10_key 41 = .ok (.aload_n 0, 1) := by decide +kernel
theorem dX10_key_42 : decode cX10_key 42 = .ok (.iload_n 1, 1) := by decide +kernel
theorem dX10_key_43 : decode cX10_key 43 = .ok (.iconst 0, 1) := by decide +kernel
theorem dX10_key_44 : decode cX10_key 44 = .ok (.aload_n 0, 1) := by decide +kernel
theorem dX10_key_45 : decode cX10_key 45 = .ok (.getfield 116, 3) := by decide +kernel
theorem dX10_key_48 : decode cX10_key 48 = .ok (.iconst 1, 1) := by decide +kernel
theorem dX10_key_49 : decode cX10_key 49 = .ok (.isub, 1) := by decide +kernel
theorem dX10_key_50 : decode cX10_key 50 = .ok (.invokestatic 193, 3) := by decide +kernel
theorem dX10_key_53 : decode cX10_key 53 = .ok (.ifCond .ne 7, 3) := by decide +kernel
theorem dX10_key_56 : decode cX10_key 56 = .ok (.iconst 1, 1) := by decide +kernel
theorem dX10_key_57 : decode cX10_key 57 = .ok (.goto 30, 3) := by decide +kernel
theorem dX10_key_60 : decode cX10_key 60 = .ok (.iload_n 3, 1) := by decide +kernel
theorem dX10_key_61 : decode cX10_key 61 = .ok (.ifCond .eq 7, 3) := by decide +kernel
theorem dX10_key_64 : decode cX10_key 64 = .ok (.iconst 2, 1) := by decide +kernel
theorem dX10_key_65 : decode cX10_key 65 = .ok (.goto 22, 3) := by decide +kernel
theorem dX10_key_68 : decode cX10_key 68 = .ok (.aload_n 0, 1) := by decide +kernel
theorem dX10_key_69 : decode cX10_key 69 = .ok (.getfield 197, 3) := by decide +kernel
theorem dX10_key_72 : decode cX10_key 72 = .ok (.ifCond .ne 10, 3) := by decide +kernel
theorem dX10_key_75 : decode cX10_key 75 = .ok (.aload_n 0, 1) := by decide +kernel
theorem dX10_key_76 : decode cX10_key 76 = .ok (.getfield 200, 3) := by decide +kernel
theorem dX10_key_79 : decode cX10_key 79 = .ok (.ifCond .le 7, 3) := by decide +kernel
theorem dX10_key_82 : decode cX10_key 82 = .ok (.iconst 3, 1) := by decide +kernel
theorem dX10_key_83 : decode cX10_key 83 = .ok (.goto 4, 3) := by decide +kernel
theorem dX10_key_86 : decode cX10_key 86 = .ok (.iconst 0, 1) := by decide +kernel
theorem dX10_key_87 : decode cX10_key 87 = .ok (.putfield 125, 3) := by decide +kernel
theorem dX10_key_90 : decode cX10_key 90 = .ok (.aload_n 0, 1) := by decide +kernel
theorem dX10_key_91 : decode cX10_key 91 = .ok (.getfield 125, 3) := by decide +kernel
theorem dX10_key_94 : decode cX10_key 94 = .ok (.ifCond .le 5, 3) := by decide +kernel
theorem dX10_key_97 : decode cX10_key 97 = .ok (.iconst 0, 1) := by decide +kernel
theorem dX10_key_98 : decode cX10_key 98 = .ok (.ireturn, 1) := by decide +kernel
theorem dX10_key_99 : decode cX10_key 99 = .ok (.aload_n 0, 1) := by decide +kernel
theorem dX10_key_100 : decode cX10_key 100 = .ok (.getfield 42, 3) := by decide +kernel
theorem dX10_key_103 : decode cX10_key 103 = .ok (.aload_n 0, 1) := by decide +kernel
theorem dX10_key_104 : decode cX10_key 104 = .ok (.getfield 147, 3) := by decide +kernel
theorem dX10_key_107 : decode cX10_key 107 = .ok (.iload_n 1, 1) := by decide +kernel
theorem dX10_key_108 : decode cX10_key 108 = .ok (.iastore, 1) := by decide +kernel
theorem dX10_key_109 : decode cX10_key 109 = .ok (.aload_n 0, 1) := by decide +kernel
theorem dX10_key_110 : decode cX10_key 110 = .ok (.getfield 45, 3) := by decide +kernel
theorem dX10_key_113 : decode cX10_key 113 = .ok (.aload_n 0, 1) := by decide +kernel
theorem dX10_key_114 : decode cX10_key 114 = .ok (.getfield 147, 3) := by decide +kernel
theorem dX10_key_117 : decode cX10_key 117 = .ok (.iload_n 2, 1) := by decide +kernel
theorem dX10_key_118 : decode cX10_key 118 = .ok (.bastore, 1) := by decide +kernel
theorem dX10_key_119 : decode cX10_key 119 = .ok (.aload_n 0, 1) := by decide +kernel
theorem dX10_key_120 : decode cX10_key 120 = .ok (.dup, 1) := by decide +kernel
theorem dX10_key_121 : decode cX10_key 121 = .ok (.getfield 147, 3) := by decide +kernel
theorem dX10_key_124 : decode cX10_key 124 = .ok (.iconst 1, 1) := by decide +kernel
theorem dX10_key_125 : decode cX10_key 125 = .ok (.iadd, 1) := by decide +kernel
theorem dX10_key_126 : decode cX10_key 126 = .ok (.putfield 147, 3) := by decide +kernel
theorem dX10_key_129 : decode cX10_key 129 = .ok (.aload_n 0, 1) := by decide +kernel
theorem dX10_key_130 : decode cX10_key 130 = .ok (.getfield 147, 3) := by decide +kernel
theorem dX10_key_133 : decode cX10_key 133 = .ok (.ireturn, 1) := by decide +kernel
theorem dX10_mode_0 : decode cX10_mode 0 = .ok (.aload_n 0, 1) := by decide +kernel
theorem dX10_mode_1 : decode cX10_mode 1 = .ok (.iload_n 1, 1) := by decide +kernel
theorem dX10_mode_2 : decode cX10_mode 2 = .ok (.iconst 0, 1) := by decide +kernel
theorem dX10_mode_3 : decode cX10_mode 3 = .ok (.iconst 2, 1) := by decide +kernel
theorem dX10_mode_4 : decode cX10_mode 4 = .ok (.invokestatic 193, 3) := by decide +kernel
theorem dX10_mode_7 : decode cX10_mode 7 = .ok (.ifCond .ne 7, 3) := by decide +kernel
theorem dX10_mode_10 : decode cX10_mode 10 = .ok (.iconst 1, 1) := by decide +kernel
theorem dX10_mode_11 : decode cX10_mode 11 = .ok (.goto 15, 3) := by decide +kernel
theorem dX10_mode_14 : decode cX10_mode 14 = .ok (.aload_n 0, 1) := by decide +kernel
theorem dX10_mode_15 : decode cX10_mode 15 = .ok (.getfield 197, 3) := by decide +kernel
theorem dX10_mode_18 : decode cX10_mode 18 = .ok (.ifCond .eq 7, 3) := by decide +kernel
theorem dX10_mode_21 : decode cX10_mode 21 = .ok (.iconst 2, 1) := by decide +kernel
theorem dX10_mode_22 : decode cX10_mode 22 = .ok (.goto 4, 3) := by decide +kernel
theorem dX10_mode_25 : decode cX10_mode 25 = .ok (.iconst 0, 1) := by decide +kernel
theorem dX10_mode_26 : decode cX10_mode 26 = .ok (.putfield 125, 3) := by decide +kernel
theorem dX10_mode_29 : decode cX10_mode 29 = .ok (.aload_n 0, 1) := by decide +kernel
theorem dX10_mode_30 : decode cX10_mode 30 = .ok (.getfield 125, 3) := by decide +kernel
theorem dX10_mode_33 : decode cX10_mode 33 = .ok (.ifCond .le 5, 3) := by decide +kernel
theorem dX10_mode_36 : decode cX10_mode 36 = .ok (.iconst 0, 1) := by decide +kernel
theorem dX10_mode_37 : decode cX10_mode 37 = .ok (.ireturn, 1) := by decide +kernel
theorem dX10_mode_38 : decode cX10_mode 38 = .ok (.aload_n 0, 1) := by decide +kernel
theorem dX10_mode_39 : decode cX10_mode 39 = .ok (.getfield 154, 3) := by decide +kernel
theorem dX10_mode_42 : decode cX10_mode 42 = .ok (.istore_n 2, 1) := by decide +kernel
theorem dX10_mode_43 : decode cX10_mode 43 = .ok (.aload_n 0, 1) := by decide +kernel
theorem dX10_mode_44 : decode cX10_mode 44 = .ok (.iload_n 1, 1) := by decide +kernel
theorem dX10_mode_45 : decode cX10_mode 45 = .ok (.putfield 154, 3) := by decide +kernel
theorem dX10_mode_48 : decode cX10_mode 48 = .ok (.iload_n 2, 1) := by decide +kernel
theorem dX10_mode_49 : decode cX10_mode 49 = .ok (.ireturn, 1) := by decide +kernel
theorem dX10_come_0 : decode cX10_come 0 = .ok (.aload_n 0, 1) := by decide +kernel
theorem dX10_come_1 : decode cX10_come 1 = .ok (.getfield 203, 3) := by decide +kernel
theorem dX10_come_4 : decode cX10_come 4 = .ok (.aload_n 0, 1) := by decide +kernel
theorem dX10_come_5 : decode cX10_come 5 = .ok (.getfield 116, 3) := by decide +kernel
theorem dX10_come_8 : decode cX10_come 8 = .ok (.iconst 1, 1) := by decide +kernel
theorem dX10_come_9 : decode cX10_come 9 = .ok (.iadd, 1) := by decide +kernel
theorem dX10_come_10 : decode cX10_come 10 = .ok (.imul, 1) := by decide +kernel
theorem dX10_come_11 : decode cX10_come 11 = .ok (.istore_n 1, 1) := by decide +kernel
theorem dX10_come_12 : decode cX10_come 12 = .ok (.iconst 0, 1) := by decide +kernel
theorem dX10_come_13 : decode cX10_come 13 = .ok (.istore_n 2, 1) := by decide +kernel
theorem dX10_come_14 : decode cX10_come 14 = .ok (.iload_n 2, 1) := by decide +kernel
theorem dX10_come_15 : decode cX10_come 15 = .ok (.aload_n 0, 1) := by decide +kernel
theorem dX10_come_16 : decode cX10_come 16 = .ok (.getfield 116, 3) := by decide +kernel
theorem dX10_come_19 : decode cX10_come 19 = .ok (.if_icmp .ge 23, 3) := by decide +kernel
theorem dX10_come_22 : decode cX10_come 22 = .ok (.aload_n 0, 1) := by decide +kernel
theorem dX10_come_23 : decode cX10_come 23 = .ok (.getfield 39, 3) := by decide +kernel
theorem dX10_come_26 : decode cX10_come 26 = .ok (.iload_n 1, 1) := by decide +kernel
theorem dX10_come_27 : decode cX10_come 27 = .ok (.iload_n 2, 1) := by decide +kernel
theorem dX10_come_28 : decode cX10_come 28 = .ok (.iadd, 1) := by decide +kernel
theorem dX10_come_29 : decode cX10_come 29 = .ok (.aload_n 0, 1) := by decide +kernel
theorem dX10_come_30 : decode cX10_come 30 = .ok (.getfield 54, 3) := by decide +kernel
theorem dX10_come_33 : decode cX10_come 33 = .ok (.iload_n 2, 1) := by decide +kernel
theorem dX10_come_34 : decode cX10_come 34 = .ok (.laload, 1) := by decide +kernel
theorem dX10_come_35 : decode cX10_come 35 = .ok (.lastore, 1) := by decide +kernel
theorem dX10_come_36 : decode cX10_come 36 = .ok (.iinc 2 1, 3) := by decide +kernel
theorem dX10_come_39 : decode cX10_come 39 = .ok (.goto (-25), 3) := by decide +kernel
theorem dX10_come_42 : decode cX10_come 42 = .ok (.aload_n 0, 1) := by decide +kernel
theorem dX10_come_43 : decode cX10_come 43 = .ok (.getfield 39, 3) := by decide +kernel
theorem dX10_come_46 : decode cX10_come 46 = .ok (.iload_n 1, 1) := by decide +kernel
theorem dX10_come_47 : decode cX10_come 47 = .ok (.aload_n 0, 1) := by decide +kernel
theorem dX10_come_48 : decode cX10_come 48 = .ok (.getfield 116, 3) := by decide +kernel
theorem dX10_come_51 : decode cX10_come 51 = .ok (.iadd, 1) := by decide +kernel
theorem dX10_come_52 : decode cX10_come 52 = .ok (.aload_n 0, 1) := by decide +kernel
theorem dX10_come_53 : decode cX10_come 53 = .ok (.getfield 206, 3) := by decide +kernel
theorem dX10_come_56 : decode cX10_come 56 = .ok (.i2l, 1) := by decide +kernel
theorem dX10_come_57 : decode cX10_come 57 = .ok (.lastore, 1) := by decide +kernel
theorem dX10_come_58 : decode cX10_come 58 = .ok (.aload_n 0, 1) := by decide +kernel
theorem dX10_come_59 : decode cX10_come 59 = .ok (.invokevirtual 209, 3) := by decide +kernel
theorem dX10_come_62 : decode cX10_come 62 = .ok (.aload_n 0, 1) := by decide +kernel
theorem dX10_come_63 : decode cX10_come 63 = .ok (.getfield 203, 3) := by decide +kernel
theorem dX10_come_66 : decode cX10_come 66 = .ok (.iconst 1, 1) := by decide +kernel
theorem dX10_come_67 : decode cX10_come 67 = .ok (.iadd, 1) := by decide +kernel
theorem dX10_come_68 : decode cX10_come 68 = .ok (.aload_n 0, 1) := by decide +kernel
theorem dX10_come_69 : decode cX10_come 69 = .ok (.invokevirtual 179, 3) := by decide +kernel
theorem dX10_come_72 : decode cX10_come 72 = .ok (.if_icmp .ge 25, 3) := by decide +kernel
theorem dX10_come_75 : decode cX10_come 75 = .ok (.aload_n 0, 1) := by decide +kernel
theorem dX10_come_76 : decode cX10_come 76 = .ok (.dup, 1) := by decide +kernel
theorem dX10_come_77 : decode cX10_come 77 = .ok (.getfield 203, 3) := by decide +kernel
theorem dX10_come_80 : decode cX10_come 80 = .ok (.iconst 1, 1) := by decide +kernel
theorem dX10_come_81 : decode cX10_come 81 = .ok (.iadd, 1) := by decide +kernel
theorem dX10_come_82 : decode cX10_come 82 = .ok (.putfield 203, 3) := by decide +kernel
theorem dX10_come_85 : decode cX10_come 85 = .ok (.aload_n 0, 1) := by decide +kernel
theorem dX10_come_86 : decode cX10_come 86 = .ok (.dup, 1) := by decide +kernel
theorem dX10_come_87 : decode cX10_come 87 = .ok (.getfield 206, 3) := by decide +kernel
theorem dX10_come_90 : decode cX10_come 90 = .ok (.iconst 1, 1) := by decide +kernel
theorem dX10_come_91 : decode cX10_come 91 = .ok (.iadd, 1) := by decide +kernel
theorem dX10_come_92 : decode cX10_come 92 = .ok (.putfield 206, 3) := by decide +kernel
theorem dX10_come_95 : decode cX10_come 95 = .ok (.iconst 1, 1) := by decide +kernel
theorem dX10_come_96 : decode cX10_come 96 = .ok (.ireturn, 1) := by decide +kernel
theorem dX10_come_97 : decode cX10_come 97 = .ok (.aload_n 0, 1) := by decide +kernel
theorem dX10_come_98 : decode cX10_come 98 = .ok (.aload_n 0, 1) := by decide +kernel
theorem dX10_come_99 : decode cX10_come 99 = .ok (.getfield 39, 3) := by decide +kernel
theorem dX10_come_102 : decode cX10_come 102 = .ok (.aload_n 0, 1) := by decide +kernel
theorem dX10_come_103 : decode cX10_come 103 = .ok (.getfield 203, 3) := by decide +kernel
theorem dX10_come_106 : decode cX10_come 106 = .ok (.iconst 1, 1) := by decide +kernel
theorem dX10_come_107 : decode cX10_come 107 = .ok (.iadd, 1) := by decide +kernel
theorem dX10_come_108 : decode cX10_come 108 = .ok (.invokevirtual 171, 3) := by decide +kernel
theorem dX10_come_111 : decode cX10_come 111 = .ok (.istore_n 2, 1) := by decide +kernel
theorem dX10_come_112 : decode cX10_come 112 = .ok (.aload_n 0, 1) := by decide +kernel
theorem dX10_come_113 : decode cX10_come 113 = .ok (.aload_n 0, 1) := by decide +kernel
theorem dX10_come_114 : decode cX10_come 114 = .ok (.getfield 134, 3) := by decide +kernel
theorem dX10_come_117 : decode cX10_come 117 = .ok (.iconst 1, 1) := by decide +kernel
theorem dX10_come_118 : decode cX10_come 118 = .ok (.if_icmp .ne 7, 3) := by decide +kernel
theorem dX10_come_121 : decode cX10_come 121 = .ok (.iconst 1, 1) := by decide +kernel
theorem dX10_come_122 : decode cX10_come 122 = .ok (.goto 4, 3) := by decide +kernel
theorem dX10_come_125 : decode cX10_come 125 = .ok (.iconst 0, 1) := by decide +kernel
theorem dX10_come_126 : decode cX10_come 126 = .ok (.putfield 197, 3) := by decide +kernel
theorem dX10_come_129 : decode cX10_come 129 = .ok (.aload_n 0, 1) := by decide +kernel
theorem dX10_come_130 : decode cX10_come 130 = .ok (.getfield 134, 3) := by decide +kernel
theorem dX10_come_133 : decode cX10_come 133 = .ok (.ifCond .le 5, 3) := by decide +kernel
theorem dX10_come_136 : decode cX10_come 136 = .ok (.iconst 0, 1) := by decide +kernel
theorem dX10_come_137 : decode cX10_come 137 = .ok (.ireturn, 1) := by decide +kernel
theorem dX10_come_138 : decode cX10_come 138 = .ok (.aload_n 0, 1) := by decide +kernel
theorem dX10_come_139 : decode cX10_come 139 = .ok (.iconst 0, 1) := by decide +kernel
theorem dX10_come_140 : decode cX10_come 140 = .ok (.iload_n 2, 1) := by decide +kernel
theorem dX10_come_141 : decode cX10_come 141 = .ok (.aload_n 0, 1) := by decide +kernel
theorem dX10_come_142 : decode cX10_come 142 = .ok (.getfield 203, 3) := by decide +kernel
theorem dX10_come_145 : decode cX10_come 145 = .ok (.iconst 1, 1) := by decide +kernel
theorem dX10_come_146 : decode cX10_come 146 = .ok (.iadd, 1) := by decide +kernel
theorem dX10_come_147 : decode cX10_come 147 = .ok (.invokevirtual 175, 3) := by decide +kernel
theorem dX10_come_150 : decode cX10_come 150 = .ok (.aload_n 0, 1) := by decide +kernel
theorem dX10_come_151 : decode cX10_come 151 = .ok (.iconst 0, 1) := by decide +kernel
theorem dX10_come_152 : decode cX10_come 152 = .ok (.putfield 203, 3) := by decide +kernel
theorem dX10_come_155 : decode cX10_come 155 = .ok (.aload_n 0, 1) := by decide +kernel
theorem dX10_come_156 : decode cX10_come 156 = .ok (.dup, 1) := by decide +kernel
theorem dX10_come_157 : decode cX10_come 157 = .ok (.getfield 206, 3) := by decide +kernel
theorem dX10_come_160 : decode cX10_come 160 = .ok (.iconst 1, 1) := by decide +kernel
theorem dX10_come_161 : decode cX10_come 161 = .ok (.iadd, 1) := by decide +kernel
theorem dX10_come_162 : decode cX10_come 162 = .ok (.putfield 206, 3) := by decide +kernel
theorem dX10_come_165 : decode cX10_come 165 = .ok (.iconst 1, 1) := by decide +kernel
theorem dX10_come_166 : decode cX10_come 166 = .ok (.ireturn, 1) := by decide +kernel
theorem dX10_feed_0 : decode cX10_feed 0 = .ok (.aload_n 0, 1) := by decide +kernel
theorem dX10_feed_1 : decode cX10_feed 1 = .ok (.aload_n 0, 1) := by decide +kernel
theorem dX10_feed_2 : decode cX10_feed 2 = .ok (.getfield 197, 3) := by decide +kernel
theorem dX10_feed_5 : decode cX10_feed 5 = .ok (.ifCond .eq 7, 3) := by decide +kernel
theorem dX10_feed_8 : decode cX10_feed 8 = .ok (.iconst 1, 1) := by decide +kernel
theorem dX10_feed_9 : decode cX10_feed 9 = .ok (.goto 4, 3) := by decide +kernel
theorem dX10_feed_12 : decode cX10_feed 12 = .ok (.iconst 0, 1) := by decide +kernel
theorem dX10_feed_13 : decode cX10_feed 13 = .ok (.putfield 125, 3) := by decide +kernel
theorem dX10_feed_16 : decode cX10_feed 16 = .ok (.aload_n 0, 1) := by decide +kernel
theorem dX10_feed_17 : decode cX10_feed 17 = .ok (.getfield 125, 3) := by decide +kernel
theorem dX10_feed_20 : decode cX10_feed 20 = .ok (.ifCond .le 5, 3) := by decide +kernel
theorem dX10_feed_23 : decode cX10_feed 23 = .ok (.iconst 0, 1) := by decide +kernel
theorem dX10_feed_24 : decode cX10_feed 24 = .ok (.ireturn, 1) := by decide +kernel
theorem dX10_feed_25 : decode cX10_feed 25 = .ok (.aload_n 0, 1) := by decide +kernel
theorem dX10_feed_26 : decode cX10_feed 26 = .ok (.getfield 54, 3) := by decide +kernel
theorem dX10_feed_29 : decode cX10_feed 29 = .ok (.iconst 0, 1) := by decide +kernel
theorem dX10_feed_30 : decode cX10_feed 30 = .ok (.lload_n 1, 1) := by decide +kernel
theorem dX10_feed_31 : decode cX10_feed 31 = .ok (.lastore, 1) := by decide +kernel
theorem dX10_feed_32 : decode cX10_feed 32 = .ok (.aload_n 0, 1) := by decide +kernel
theorem dX10_feed_33 : decode cX10_feed 33 = .ok (.getfield 54, 3) := by decide +kernel
theorem dX10_feed_36 : decode cX10_feed 36 = .ok (.iconst 1, 1) := by decide +kernel
theorem dX10_feed_37 : decode cX10_feed 37 = .ok (.lload_n 3, 1) := by decide +kernel
theorem dX10_feed_38 : decode cX10_feed 38 = .ok (.lastore, 1) := by decide +kernel
theorem dX10_feed_39 : decode cX10_feed 39 = .ok (.aload_n 0, 1) := by decide +kernel
theorem dX10_feed_40 : decode cX10_feed 40 = .ok (.getfield 54, 3) := by decide +kernel
theorem dX10_feed_43 : decode cX10_feed 43 = .ok (.iconst 2, 1) := by decide +kernel
theorem dX10_feed_44 : decode cX10_feed 44 = .ok (.lload 5, 2) := by decide +kernel
theorem dX10_feed_46 : decode cX10_feed 46 = .ok (.lastore, 1) := by decide +kernel
theorem dX10_feed_47 : decode cX10_feed 47 = .ok (.aload_n 0, 1) := by decide +kernel
theorem dX10_feed_48 : decode cX10_feed 48 = .ok (.getfield 54, 3) := by decide +kernel
theorem dX10_feed_51 : decode cX10_feed 51 = .ok (.iconst 3, 1) := by decide +kernel
theorem dX10_feed_52 : decode cX10_feed 52 = .ok (.lload 7, 2) := by decide +kernel
theorem dX10_feed_54 : decode cX10_feed 54 = .ok (.lastore, 1) := by decide +kernel
theorem dX10_feed_55 : decode cX10_feed 55 = .ok (.aload_n 0, 1) := by decide +kernel
theorem dX10_feed_56 : decode cX10_feed 56 = .ok (.invokevirtual 212, 3) := by decide +kernel
theorem dX10_feed_59 : decode cX10_feed 59 = .ok (.istore 9, 2) := by decide +kernel
theorem dX10_feed_61 : decode cX10_feed 61 = .ok (.aload_n 0, 1) := by decide +kernel
theorem dX10_feed_62 : decode cX10_feed 62 = .ok (.aload_n 0, 1) := by decide +kernel
theorem dX10_feed_63 : decode cX10_feed 63 = .ok (.getfield 134, 3) := by decide +kernel
theorem dX10_feed_66 : decode cX10_feed 66 = .ok (.iconst 2, 1) := by decide +kernel
theorem dX10_feed_67 : decode cX10_feed 67 = .ok (.if_icmp .ne 7, 3) := by decide +kernel
theorem dX10_feed_70 : decode cX10_feed 70 = .ok (.iconst 2, 1) := by decide +kernel
theorem dX10_feed_71 : decode cX10_feed 71 = .ok (.goto 4, 3) := by decide +kernel
theorem dX10_feed_74 : decode cX10_feed 74 = .ok (.iconst 0, 1) := by decide +kernel
theorem dX10_feed_75 : decode cX10_feed 75 = .ok (.putfield 125, 3) := by decide +kernel
theorem dX10_feed_78 : decode cX10_feed 78 = .ok (.iload 9, 2) := by decide +kernel
theorem dX10_feed_80 : decode cX10_feed 80 = .ok (.ifCond .eq 12, 3) := by decide +kernel
theorem dX10_feed_83 : decode cX10_feed 83 = .ok (.aload_n 0, 1) := by decide +kernel
theorem dX10_feed_84 : decode cX10_feed 84 = .ok (.getfield 206, 3) := by decide +kernel
theorem dX10_feed_87 : decode cX10_feed 87 = .ok (.iconst 1, 1) := by decide +kernel
theorem dX10_feed_88 : decode cX10_feed 88 = .ok (.isub, 1) := by decide +kernel
theorem dX10_feed_89 : decode cX10_feed 89 = .ok (.goto 5, 3) := by decide +kernel
theorem dX10_feed_92 : decode cX10_feed 92 = .ok (.bipush (-2), 2) := by decide +kernel
theorem dX10_feed_94 : decode cX10_feed 94 = .ok (.ireturn, 1) := by decide +kernel
theorem dX10_run_0 : decode cX10_run 0 = .ok (.aload_n 0, 1) := by decide +kernel
theorem dX10_run_1 : decode cX10_run 1 = .ok (.iload_n 3, 1) := by decide +kernel
theorem dX10_run_2 : decode cX10_run 2 = .ok (.iconst 1, 1) := by decide +kernel
theorem dX10_run_3 : decode cX10_run 3 = .ok (.ldc 215, 2) := by decide +kernel
theorem dX10_run_5 : decode cX10_run 5 = .ok (.invokestatic 193, 3) := by decide +kernel
theorem dX10_run_8 : decode cX10_run 8 = .ok (.ifCond .eq 15, 3) := by decide +kernel
theorem dX10_run_11 : decode cX10_run 11 = .ok (.iload 4, 2) := by decide +kernel
theorem dX10_run_13 : decode cX10_run 13 = .ok (.iconst 0, 1) := by decide +kernel
theorem dX10_run_14 : decode cX10_run 14 = .ok (.sipush 300, 3) := by decide +kernel
theorem dX10_run_17 : decode cX10_run 17 = .ok (.invokestatic 193, 3) := by decide +kernel
theorem dX10_run_20 : decode cX10_run 20 = .ok (.ifCond .ne 7, 3) := by decide +kernel
theorem dX10_run_23 : decode cX10_run 23 = .ok (.iconst 1, 1) := by decide +kernel
theorem dX10_run_24 : decode cX10_run 24 = .ok (.goto 15, 3) := by decide +kernel
theorem dX10_run_27 : decode cX10_run 27 = .ok (.aload_n 0, 1) := by decide +kernel
theorem dX10_run_28 : decode cX10_run 28 = .ok (.getfield 197, 3) := by decide +kernel
theorem dX10_run_31 : decode cX10_run 31 = .ok (.ifCond .eq 7, 3) := by decide +kernel
theorem dX10_run_34 : decode cX10_run 34 = .ok (.iconst 2, 1) := by decide +kernel
theorem dX10_run_35 : decode cX10_run 35 = .ok (.goto 4, 3) := by decide +kernel
theorem dX10_run_38 : decode cX10_run 38 = .ok (.iconst 0, 1) := by decide +kernel
theorem dX10_run_39 : decode cX10_run 39 = .ok (.putfield 125, 3) := by decide +kernel
theorem dX10_run_42 : decode cX10_run 42 = .ok (.aload_n 0, 1) := by decide +kernel
theorem dX10_run_43 : decode cX10_run 43 = .ok (.getfield 125, 3) := by decide +kernel
theorem dX10_run_46 : decode cX10_run 46 = .ok (.ifCond .le 5, 3) := by decide +kernel
theorem dX10_run_49 : decode cX10_run 49 = .ok (.iconst 0, 1) := by decide +kernel
theorem dX10_run_50 : decode cX10_run 50 = .ok (.ireturn, 1) := by decide +kernel
theorem dX10_run_51 : decode cX10_run 51 = .ok (.lload_n 1, 1) := by decide +kernel
theorem dX10_run_52 : decode cX10_run 52 = .ok (.lstore 5, 2) := by decide +kernel
theorem dX10_run_54 : decode cX10_run 54 = .ok (.iconst 0, 1) := by decide +kernel
theorem dX10_run_55 : decode cX10_run 55 = .ok (.istore 7, 2) := by decide +kernel
theorem dX10_run_57 : decode cX10_run 57 = .ok (.iconst 1, 1) := by decide +kernel
theorem dX10_run_58 : decode cX10_run 58 = .ok (.istore 8, 2) := by decide +kernel
theorem dX10_run_60 : decode cX10_run 60 = .ok (.iload 7, 2) := by decide +kernel
theorem dX10_run_62 : decode cX10_run 62 = .ok (.iload 4, 2) := by decide +kernel
theorem dX10_run_64 : decode cX10_run 64 = .ok (.if_icmp .ge 78, 3) := by decide +kernel
theorem dX10_run_67 : decode cX10_run 67 = .ok (.iload 8, 2) := by decide +kernel
theorem dX10_run_69 : decode cX10_run 69 = .ok (.ifCond .eq 73, 3) := by decide +kernel
theorem dX10_run_72 : decode cX10_run 72 = .ok (.iconst 0, 1) := by decide +kernel
theorem dX10_run_73 : decode cX10_run 73 = .ok (.istore 9, 2) := by decide +kernel
theorem dX10_run_75 : decode cX10_run 75 = .ok (.iload 9, 2) := by decide +kernel
theorem dX10_run_77 : decode cX10_run 77 = .ok (.aload_n 0, 1) := by decide +kernel
theorem dX10_run_78 : decode cX10_run 78 = .ok (.getfield 116, 3) := by decide +kernel
theorem dX10_run_81 : decode cX10_run 81 = .ok (.if_icmp .ge 36, 3) := by decide +kernel
theorem dX10_run_84 : decode cX10_run 84 = .ok (.lload 5, 2) := by decide +kernel
theorem dX10_run_86 : decode cX10_run 86 = .ok (.ldc2_w 216, 3) := by decide +kernel
theorem dX10_run_89 : decode cX10_run 89 = .ok (.lmul, 1) := by decide +kernel
theorem dX10_run_90 : decode cX10_run 90 = .ok (.ldc2_w 218, 3) := by decide +kernel
theorem dX10_run_93 : decode cX10_run 93 = .ok (.ladd, 1) := by decide +kernel
theorem dX10_run_94 : decode cX10_run 94 = .ok (.lstore 5, 2) := by decide +kernel
theorem dX10_run_96 : decode cX10_run 96 = .ok (.aload_n 0, 1) := by decide +kernel
theorem dX10_run_97 : decode cX10_run 97 = .ok (.getfield 54, 3) := by decide +kernel
theorem dX10_run_100 : decode cX10_run 100 = .ok (.iload 9, 2) := by decide +kernel
theorem dX10_run_102 : decode cX10_run 102 = .ok (.lload 5, 2) := by decide +kernel
theorem dX10_run_104 : decode cX10_run 104 = .ok (.bipush 33, 2) := by decide +kernel
theorem dX10_run_106 : decode cX10_run 106 = .ok (.lushr, 1) := by decide +kernel
theorem dX10_run_107 : decode cX10_run 107 = .ok (.iload_n 3, 1) := by decide +kernel
theorem dX10_run_108 : decode cX10_run 108 = .ok (.i2l, 1) := by decide +kernel
theorem dX10_run_109 : decode cX10_run 109 = .ok (.lrem, 1) := by decide +kernel
theorem dX10_run_110 : decode cX10_run 110 = .ok (.lastore, 1) := by decide +kernel
theorem dX10_run_111 : decode cX10_run 111 = .ok (.iinc 9 1, 3) := by decide +kernel
theorem dX10_run_114 : decode cX10_run 114 = .ok (.goto (-39), 3) := by decide +kernel
theorem dX10_run_117 : decode cX10_run 117 = .ok (.aload_n 0, 1) := by decide +kernel
theorem dX10_run_118 : decode cX10_run 118 = .ok (.invokevirtual 212, 3) := by decide +kernel
theorem dX10_run_121 : decode cX10_run 121 = .ok (.istore 8, 2) := by decide +kernel
theorem dX10_run_123 : decode cX10_run 123 = .ok (.iload 8, 2) := by decide +kernel
theorem dX10_run_125 : decode cX10_run 125 = .ok (.ifCond .eq 10, 3) := by decide +kernel
theorem dX10_run_128 : decode cX10_run 128 = .ok (.iload 7, 2) := by decide +kernel
theorem dX10_run_130 : decode cX10_run 130 = .ok (.iconst 1, 1) := by decide +kernel
theorem dX10_run_131 : decode cX10_run 131 = .ok (.iadd, 1) := by decide +kernel
theorem dX10_run_132 : decode cX10_run 132 = .ok (.goto 5, 3) := by decide +kernel
theorem dX10_run_135 : decode cX10_run 135 = .ok (.iload 7, 2) := by decide +kernel
theorem dX10_run_137 : decode cX10_run 137 = .ok (.istore 7, 2) := by decide +kernel
theorem dX10_run_139 : decode cX10_run 139 = .ok (.goto (-79), 3) := by decide +kernel
theorem dX10_run_142 : decode cX10_run 142 = .ok (.iload 7, 2) := by decide +kernel
theorem dX10_run_144 : decode cX10_run 144 = .ok (.ireturn, 1) := by decide +kernel
theorem dX10_nextRecord_0 : decode cX10_nextRecord 0 = .ok (.aload_n 0, 1) := by decide +kernel
theorem dX10_nextRecord_1 : decode cX10_nextRecord 1 = .ok (.getfield 220, 3) := by decide +kernel
theorem dX10_nextRecord_4 : decode cX10_nextRecord 4 = .ok (.ifCond .eq 10, 3) := by decide +kernel
theorem dX10_nextRecord_7 : decode cX10_nextRecord 7 = .ok (.aload_n 0, 1) := by decide +kernel
theorem dX10_nextRecord_8 : decode cX10_nextRecord 8 = .ok (.getfield 134, 3) := by decide +kernel
theorem dX10_nextRecord_11 : decode cX10_nextRecord 11 = .ok (.ifCond .le 5, 3) := by decide +kernel
theorem dX10_nextRecord_14 : decode cX10_nextRecord 14 = .ok (.iconst (-1), 1) := by decide +kernel
theorem dX10_nextRecord_15 : decode cX10_nextRecord 15 = .ok (.ireturn, 1) := by decide +kernel
theorem dX10_nextRecord_16 : decode cX10_nextRecord 16 = .ok (.aload_n 0, 1) := by decide +kernel
theorem dX10_nextRecord_17 : decode cX10_nextRecord 17 = .ok (.getfield 223, 3) := by decide +kernel
theorem dX10_nextRecord_20 : decode cX10_nextRecord 20 = .ok (.aload_n 0, 1) := by decide +kernel
theorem dX10_nextRecord_21 : decode cX10_nextRecord 21 = .ok (.invokevirtual 179, 3) := by decide +kernel
theorem dX10_nextRecord_24 : decode cX10_nextRecord 24 = .ok (.if_icmp .ne 21, 3) := by decide +kernel
theorem dX10_nextRecord_27 : decode cX10_nextRecord 27 = .ok (.aload_n 0, 1) := by decide +kernel
theorem dX10_nextRecord_28 : decode cX10_nextRecord 28 = .ok (.aload_n 0, 1) := by decide +kernel
theorem dX10_nextRecord_29 : decode cX10_nextRecord 29 = .ok (.getfield 20, 3) := by decide +kernel
theorem dX10_nextRecord_32 : decode cX10_nextRecord 32 = .ok (.aload_n 0, 1) := by decide +kernel
theorem dX10_nextRecord_33 : decode cX10_nextRecord 33 = .ok (.getfield 226, 3) := by decide +kernel
theorem dX10_nextRecord_36 : decode cX10_nextRecord 36 = .ok (.iaload, 1) := by decide +kernel
theorem dX10_nextRecord_37 : decode cX10_nextRecord 37 = .ok (.putfield 226, 3) := by decide +kernel
theorem dX10_nextRecord_40 : decode cX10_nextRecord 40 = .ok (.aload_n 0, 1) := by decide +kernel
theorem dX10_nextRecord_41 : decode cX10_nextRecord 41 = .ok (.iconst 0, 1) := by decide +kernel
theorem dX10_nextRecord_42 : decode cX10_nextRecord 42 = .ok (.putfield 223, 3) := by decide +kernel
theorem dX10_nextRecord_45 : decode cX10_nextRecord 45 = .ok (.aload_n 0, 1) := by decide +kernel
theorem dX10_nextRecord_46 : decode cX10_nextRecord 46 = .ok (.getfield 223, 3) := by decide +kernel
theorem dX10_nextRecord_49 : decode cX10_nextRecord 49 = .ok (.ifCond .ne 11, 3) := by decide +kernel
theorem dX10_nextRecord_52 : decode cX10_nextRecord 52 = .ok (.aload_n 0, 1) := by decide +kernel
theorem dX10_nextRecord_53 : decode cX10_nextRecord 53 = .ok (.aload_n 0, 1) := by decide +kernel
theorem dX10_nextRecord_54 : decode cX10_nextRecord 54 = .ok (.getfield 226, 3) := by decide +kernel
theorem dX10_nextRecord_57 : decode cX10_nextRecord 57 = .ok (.invokevirtual 229, 3) := by decide +kernel
theorem dX10_nextRecord_60 : decode cX10_nextRecord 60 = .ok (.bipush 64, 2) := by decide +kernel
theorem dX10_nextRecord_62 : decode cX10_nextRecord 62 = .ok (.aload_n 0, 1) := by decide +kernel
theorem dX10_nextRecord_63 : decode cX10_nextRecord 63 = .ok (.getfield 226, 3) := by decide +kernel
theorem dX10_nextRecord_66 : decode cX10_nextRecord 66 = .ok (.imul, 1) := by decide +kernel
theorem dX10_nextRecord_67 : decode cX10_nextRecord 67 = .ok (.aload_n 0, 1) := by decide +kernel
theorem dX10_nextRecord_68 : decode cX10_nextRecord 68 = .ok (.getfield 223, 3) := by decide +kernel
theorem dX10_nextRecord_71 : decode cX10_nextRecord 71 = .ok (.aload_n 0, 1) := by decide +kernel
theorem dX10_nextRecord_72 : decode cX10_nextRecord 72 = .ok (.getfield 116, 3) := by decide +kernel
theorem dX10_nextRecord_75 : decode cX10_nextRecord 75 = .ok (.iconst 1, 1) := by decide +kernel
theorem dX10_nextRecord_76 : decode cX10_nextRecord 76 = .ok (.iadd, 1) := by decide +kernel
theorem dX10_nextRecord_77 : decode cX10_nextRecord 77 = .ok (.imul, 1) := by decide +kernel
theorem dX10_nextRecord_78 : decode cX10_nextRecord 78 = .ok (.iadd, 1) := by decide +kernel
theorem dX10_nextRecord_79 : decode cX10_nextRecord 79 = .ok (.istore_n 1, 1) := by decide +kernel
theorem dX10_nextRecord_80 : decode cX10_nextRecord 80 = .ok (.aload_n 0, 1) := by decide +kernel
theorem dX10_nextRecord_81 : decode cX10_nextRecord 81 = .ok (.dup, 1) := by decide +kernel
theorem dX10_nextRecord_82 : decode cX10_nextRecord 82 = .ok (.getfield 223, 3) := by decide +kernel
theorem dX10_nextRecord_85 : decode cX10_nextRecord 85 = .ok (.iconst 1, 1) := by decide +kernel
theorem dX10_nextRecord_86 : decode cX10_nextRecord 86 = .ok (.iadd, 1) := by decide +kernel
theorem dX10_nextRecord_87 : decode cX10_nextRecord 87 = .ok (.putfield 223, 3) := by decide +kernel
theorem dX10_nextRecord_90 : decode cX10_nextRecord 90 = .ok (.aload_n 0, 1) := by decide +kernel
theorem dX10_nextRecord_91 : decode cX10_nextRecord 91 = .ok (.dup, 1) := by decide +kernel
theorem dX10_nextRecord_92 : decode cX10_nextRecord 92 = .ok (.getfield 220, 3) := by decide +kernel
theorem dX10_nextRecord_95 : decode cX10_nextRecord 95 = .ok (.iconst 1, 1) := by decide +kernel
theorem dX10_nextRecord_96 : decode cX10_nextRecord 96 = .ok (.isub, 1) := by decide +kernel
theorem dX10_nextRecord_97 : decode cX10_nextRecord 97 = .ok (.putfield 220, 3) := by decide +kernel
theorem dX10_nextRecord_100 : decode cX10_nextRecord 100 = .ok (.iload_n 1, 1) := by decide +kernel
theorem dX10_nextRecord_101 : decode cX10_nextRecord 101 = .ok (.ireturn, 1) := by decide +kernel
theorem dX10_nextRun_0 : decode cX10_nextRun 0 = .ok (.aload_n 0, 1) := by decide +kernel
theorem dX10_nextRun_1 : decode cX10_nextRun 1 = .ok (.invokevirtual 232, 3) := by decide +kernel
theorem dX10_nextRun_4 : decode cX10_nextRun 4 = .ok (.aload_n 0, 1) := by decide +kernel
theorem dX10_nextRun_5 : decode cX10_nextRun 5 = .ok (.getfield 63, 3) := by decide +kernel
theorem dX10_nextRun_8 : decode cX10_nextRun 8 = .ok (.aload_n 0, 1) := by decide +kernel
theorem dX10_nextRun_9 : decode cX10_nextRun 9 = .ok (.getfield 235, 3) := by decide +kernel
theorem dX10_nextRun_12 : decode cX10_nextRun 12 = .ok (.aload_n 0, 1) := by decide +kernel
theorem dX10_nextRun_13 : decode cX10_nextRun 13 = .ok (.getfield 161, 3) := by decide +kernel
theorem dX10_nextRun_16 : decode cX10_nextRun 16 = .ok (.iastore, 1) := by decide +kernel
theorem dX10_nextRun_17 : decode cX10_nextRun 17 = .ok (.aload_n 0, 1) := by decide +kernel
theorem dX10_nextRun_18 : decode cX10_nextRun 18 = .ok (.dup, 1) := by decide +kernel
theorem dX10_nextRun_19 : decode cX10_nextRun 19 = .ok (.getfield 235, 3) := by decide +kernel
theorem dX10_nextRun_22 : decode cX10_nextRun 22 = .ok (.iconst 1, 1) := by decide +kernel
theorem dX10_nextRun_23 : decode cX10_nextRun 23 = .ok (.iadd, 1) := by decide +kernel
theorem dX10_nextRun_24 : decode cX10_nextRun 24 = .ok (.putfield 235, 3) := by decide +kernel
theorem dX10_nextRun_27 : decode cX10_nextRun 27 = .ok (.return_, 1) := by decide +kernel
theorem dX10_firstHeld_0 : decode cX10_firstHeld 0 = .ok (.iconst (-1), 1) := by decide +kernel
theorem dX10_firstHeld_1 : decode cX10_firstHeld 1 = .ok (.istore_n 1, 1) := by decide +kernel
theorem dX10_firstHeld_2 : decode cX10_firstHeld 2 = .ok (.iconst 0, 1) := by decide +kernel
theorem dX10_firstHeld_3 : decode cX10_firstHeld 3 = .ok (.istore_n 2, 1) := by decide +kernel
theorem dX10_firstHeld_4 : decode cX10_firstHeld 4 = .ok (.iload_n 2, 1) := by decide +kernel
theorem dX10_firstHeld_5 : decode cX10_firstHeld 5 = .ok (.aload_n 0, 1) := by decide +kernel
theorem dX10_firstHeld_6 : decode cX10_firstHeld 6 = .ok (.getfield 238, 3) := by decide +kernel
theorem dX10_firstHeld_9 : decode cX10_firstHeld 9 = .ok (.if_icmp .ge 50, 3) := by decide +kernel
theorem dX10_firstHeld_12 : decode cX10_firstHeld 12 = .ok (.aload_n 0, 1) := by decide +kernel
theorem dX10_firstHeld_13 : decode cX10_firstHeld 13 = .ok (.getfield 134, 3) := by decide +kernel
theorem dX10_firstHeld_16 : decode cX10_firstHeld 16 = .ok (.ifCond .ne 43, 3) := by decide +kernel
theorem dX10_firstHeld_19 : decode cX10_firstHeld 19 = .ok (.aload_n 0, 1) := by decide +kernel
theorem dX10_firstHeld_20 : decode cX10_firstHeld 20 = .ok (.getfield 60, 3) := by decide +kernel
theorem dX10_firstHeld_23 : decode cX10_firstHeld 23 = .ok (.iload_n 2, 1) := by decide +kernel
theorem dX10_firstHeld_24 : decode cX10_firstHeld 24 = .ok (.baload, 1) := by decide +kernel
theorem dX10_firstHeld_25 : decode cX10_firstHeld 25 = .ok (.ifCond .ne 28, 3) := by decide +kernel
theorem dX10_firstHeld_28 : decode cX10_firstHeld 28 = .ok (.iload_n 1, 1) := by decide +kernel
theorem dX10_firstHeld_29 : decode cX10_firstHeld 29 = .ok (.ifCond .lt 22, 3) := by decide +kernel
theorem dX10_firstHeld_32 : decode cX10_firstHeld 32 = .ok (.aload_n 0, 1) := by decide +kernel
theorem dX10_firstHeld_33 : decode cX10_firstHeld 33 = .ok (.aload_n 0, 1) := by decide +kernel
theorem dX10_firstHeld_34 : decode cX10_firstHeld 34 = .ok (.getfield 57, 3) := by decide +kernel
theorem dX10_firstHeld_37 : decode cX10_firstHeld 37 = .ok (.iload_n 2, 1) := by decide +kernel
theorem dX10_firstHeld_38 : decode cX10_firstHeld 38 = .ok (.iaload, 1) := by decide +kernel
theorem dX10_firstHeld_39 : decode cX10_firstHeld 39 = .ok (.aload_n 0, 1) := by decide +kernel
theorem dX10_firstHeld_40 : decode cX10_firstHeld 40 = .ok (.getfield 57, 3) := by decide +kernel
theorem dX10_firstHeld_43 : decode cX10_firstHeld 43 = .ok (.iload_n 1, 1) := by decide +kernel
theorem dX10_firstHeld_44 : decode cX10_firstHeld 44 = .ok (.iaload, 1) := by decide +kernel
theorem dX10_firstHeld_45 : decode cX10_firstHeld 45 = .ok (.invokevirtual 241, 3) := by decide +kernel
theorem dX10_firstHeld_48 : decode cX10_firstHeld 48 = .ok (.ifCond .eq 5, 3) := by decide +kernel
theorem dX10_firstHeld_51 : decode cX10_firstHeld 51 = .ok (.iload_n 2, 1) := by decide +kernel
theorem dX10_firstHeld_52 : decode cX10_firstHeld 52 = .ok (.istore_n 1, 1) := by decide +kernel
theorem dX10_firstHeld_53 : decode cX10_firstHeld 53 = .ok (.iinc 2 1, 3) := by decide +kernel
theorem dX10_firstHeld_56 : decode cX10_firstHeld 56 = .ok (.goto (-52), 3) := by decide +kernel
theorem dX10_firstHeld_59 : decode cX10_firstHeld 59 = .ok (.iload_n 1, 1) := by decide +kernel
theorem dX10_firstHeld_60 : decode cX10_firstHeld 60 = .ok (.ireturn, 1) := by decide +kernel
theorem dX10_fill_0 : decode cX10_fill 0 = .ok (.aload_n 0, 1) := by decide +kernel
theorem dX10_fill_1 : decode cX10_fill 1 = .ok (.iconst 0, 1) := by decide +kernel
theorem dX10_fill_2 : decode cX10_fill 2 = .ok (.putfield 238, 3) := by decide +kernel
theorem dX10_fill_5 : decode cX10_fill 5 = .ok (.aload_n 0, 1) := by decide +kernel
theorem dX10_fill_6 : decode cX10_fill 6 = .ok (.getfield 238, 3) := by decide +kernel
theorem dX10_fill_9 : decode cX10_fill 9 = .ok (.aload_n 0, 1) := by decide +kernel
theorem dX10_fill_10 : decode cX10_fill 10 = .ok (.getfield 113, 3) := by decide +kernel
theorem dX10_fill_13 : decode cX10_fill 13 = .ok (.if_icmp .ge 46, 3) := by decide +kernel
theorem dX10_fill_16 : decode cX10_fill 16 = .ok (.aload_n 0, 1) := by decide +kernel
theorem dX10_fill_17 : decode cX10_fill 17 = .ok (.getfield 220, 3) := by decide +kernel
theorem dX10_fill_20 : decode cX10_fill 20 = .ok (.ifCond .le 39, 3) := by decide +kernel
theorem dX10_fill_23 : decode cX10_fill 23 = .ok (.aload_n 0, 1) := by decide +kernel
theorem dX10_fill_24 : decode cX10_fill 24 = .ok (.getfield 57, 3) := by decide +kernel
theorem dX10_fill_27 : decode cX10_fill 27 = .ok (.aload_n 0, 1) := by decide +kernel
theorem dX10_fill_28 : decode cX10_fill 28 = .ok (.getfield 238, 3) := by decide +kernel
theorem dX10_fill_31 : decode cX10_fill 31 = .ok (.aload_n 0, 1) := by decide +kernel
theorem dX10_fill_32 : decode cX10_fill 32 = .ok (.invokevirtual 245, 3) := by decide +kernel
theorem dX10_fill_35 : decode cX10_fill 35 = .ok (.iastore, 1) := by decide +kernel
theorem dX10_fill_36 : decode cX10_fill 36 = .ok (.aload_n 0, 1) := by decide +kernel
theorem dX10_fill_37 : decode cX10_fill 37 = .ok (.getfield 60, 3) := by decide +kernel
theorem dX10_fill_40 : decode cX10_fill 40 = .ok (.aload_n 0, 1) := by decide +kernel
theorem dX10_fill_41 : decode cX10_fill 41 = .ok (.getfield 238, 3) := by decide +kernel
theorem dX10_fill_44 : decode cX10_fill 44 = .ok (.iconst 0, 1) := by decide +kernel
theorem dX10_fill_45 : decode cX10_fill 45 = .ok (.bastore, 1) := by decide +kernel
theorem dX10_fill_46 : decode cX10_fill 46 = .ok (.aload_n 0, 1) := by decide +kernel
theorem dX10_fill_47 : decode cX10_fill 47 = .ok (.dup, 1) := by decide +kernel
theorem dX10_fill_48 : decode cX10_fill 48 = .ok (.getfield 238, 3) := by decide +kernel
theorem dX10_fill_51 : decode cX10_fill 51 = .ok (.iconst 1, 1) := by decide +kernel
theorem dX10_fill_52 : decode cX10_fill 52 = .ok (.iadd, 1) := by decide +kernel
theorem dX10_fill_53 : decode cX10_fill 53 = .ok (.putfield 238, 3) := by decide +kernel
theorem dX10_fill_56 : decode cX10_fill 56 = .ok (.goto (-51), 3) := by decide +kernel
theorem dX10_fill_59 : decode cX10_fill 59 = .ok (.return_, 1) := by decide +kernel
theorem dX10_loading_0 : decode cX10_loading 0 = .ok (.aload_n 0, 1) := by decide +kernel
theorem dX10_loading_1 : decode cX10_loading 1 = .ok (.getfield 220, 3) := by decide +kernel
theorem dX10_loading_4 : decode cX10_loading 4 = .ok (.ifCond .le 59, 3) := by decide +kernel
theorem dX10_loading_7 : decode cX10_loading 7 = .ok (.aload_n 0, 1) := by decide +kernel
theorem dX10_loading_8 : decode cX10_loading 8 = .ok (.getfield 134, 3) := by decide +kernel
theorem dX10_loading_11 : decode cX10_loading 11 = .ok (.ifCond .ne 52, 3) := by decide +kernel
theorem dX10_loading_14 : decode cX10_loading 14 = .ok (.aload_n 0, 1) := by decide +kernel
theorem dX10_loading_15 : decode cX10_loading 15 = .ok (.invokevirtual 248, 3) := by decide +kernel
theorem dX10_loading_18 : decode cX10_loading 18 = .ok (.aload_n 0, 1) := by decide +kernel
theorem dX10_loading_19 : decode cX10_loading 19 = .ok (.invokevirtual 251, 3) := by decide +kernel
theorem dX10_loading_22 : decode cX10_loading 22 = .ok (.aload_n 0, 1) := by decide +kernel
theorem dX10_loading_23 : decode cX10_loading 23 = .ok (.invokevirtual 254, 3) := by decide +kernel
theorem dX10_loading_26 : decode cX10_loading 26 = .ok (.istore_n 1, 1) := by decide +kernel
theorem dX10_loading_27 : decode cX10_loading 27 = .ok (.iload_n 1, 1) := by decide +kernel
theorem dX10_loading_28 : decode cX10_loading 28 = .ok (.ifCond .lt 28, 3) := by decide +kernel
theorem dX10_loading_31 : decode cX10_loading 31 = .ok (.aload_n 0, 1) := by decide +kernel
theorem dX10_loading_32 : decode cX10_loading 32 = .ok (.aload_n 0, 1) := by decide +kernel
theorem dX10_loading_33 : decode cX10_loading 33 = .ok (.getfield 57, 3) := by decide +kernel
theorem dX10_loading_36 : decode cX10_loading 36 = .ok (.iload_n 1, 1) := by decide +kernel
theorem dX10_loading_37 : decode cX10_loading 37 = .ok (.iaload, 1) := by decide +kernel
theorem dX10_loading_38 : decode cX10_loading 38 = .ok (.invokevirtual 257, 3) := by decide +kernel
theorem dX10_loading_41 : decode cX10_loading 41 = .ok (.aload_n 0, 1) := by decide +kernel
theorem dX10_loading_42 : decode cX10_loading 42 = .ok (.getfield 60, 3) := by decide +kernel
theorem dX10_loading_45 : decode cX10_loading 45 = .ok (.iload_n 1, 1) := by decide +kernel
theorem dX10_loading_46 : decode cX10_loading 46 = .ok (.iconst 1, 1) := by decide +kernel
theorem dX10_loading_47 : decode cX10_loading 47 = .ok (.bastore, 1) := by decide +kernel
theorem dX10_loading_48 : decode cX10_loading 48 = .ok (.aload_n 0, 1) := by decide +kernel
theorem dX10_loading_49 : decode cX10_loading 49 = .ok (.invokevirtual 254, 3) := by decide +kernel
theorem dX10_loading_52 : decode cX10_loading 52 = .ok (.istore_n 1, 1) := by decide +kernel
theorem dX10_loading_53 : decode cX10_loading 53 = .ok (.goto (-26), 3) := by decide +kernel
theorem dX10_loading_56 : decode cX10_loading 56 = .ok (.aload_n 0, 1) := by decide +kernel
theorem dX10_loading_57 : decode cX10_loading 57 = .ok (.invokevirtual 260, 3) := by decide +kernel
theorem dX10_loading_60 : decode cX10_loading 60 = .ok (.goto (-60), 3) := by decide +kernel
theorem dX10_loading_63 : decode cX10_loading 63 = .ok (.return_, 1) := by decide +kernel
theorem dX10_choosing_0 : decode cX10_choosing 0 = .ok (.aload_n 0, 1) := by decide +kernel
theorem dX10_choosing_1 : decode cX10_choosing 1 = .ok (.invokevirtual 248, 3) := by decide +kernel
theorem dX10_choosing_4 : decode cX10_choosing 4 = .ok (.aload_n 0, 1) := by decide +kernel
theorem dX10_choosing_5 : decode cX10_choosing 5 = .ok (.getfield 238, 3) := by decide +kernel
theorem dX10_choosing_8 : decode cX10_choosing 8 = .ok (.ifCond .le 145, 3) := by decide +kernel
theorem dX10_choosing_11 : decode cX10_choosing 11 = .ok (.aload_n 0, 1) := by decide +kernel
theorem dX10_choosing_12 : decode cX10_choosing 12 = .ok (.getfield 134, 3) := by decide +kernel
theorem dX10_choosing_15 : decode cX10_choosing 15 = .ok (.ifCond .ne 138, 3) := by decide +kernel
theorem dX10_choosing_18 : decode cX10_choosing 18 = .ok (.aload_n 0, 1) := by decide +kernel
theorem dX10_choosing_19 : decode cX10_choosing 19 = .ok (.invokevirtual 251, 3) := by decide +kernel
theorem dX10_choosing_22 : decode cX10_choosing 22 = .ok (.aload_n 0, 1) := by decide +kernel
theorem dX10_choosing_23 : decode cX10_choosing 23 = .ok (.invokevirtual 254, 3) := by decide +kernel
theorem dX10_choosing_26 : decode cX10_choosing 26 = .ok (.istore_n 1, 1) := by decide +kernel
theorem dX10_choosing_27 : decode cX10_choosing 27 = .ok (.iload_n 1, 1) := by decide +kernel
theorem dX10_choosing_28 : decode cX10_choosing 28 = .ok (.ifCond .lt 95, 3) := by decide +kernel
theorem dX10_choosing_31 : decode cX10_choosing 31 = .ok (.aload_n 0, 1) := by decide +kernel
theorem dX10_choosing_32 : decode cX10_choosing 32 = .ok (.getfield 57, 3) := by decide +kernel
theorem dX10_choosing_35 : decode cX10_choosing 35 = .ok (.iload_n 1, 1) := by decide +kernel
theorem dX10_choosing_36 : decode cX10_choosing 36 = .ok (.iaload, 1) := by decide +kernel
theorem dX10_choosing_37 : decode cX10_choosing 37 = .ok (.istore_n 2, 1) := by decide +kernel
theorem dX10_choosing_38 : decode cX10_choosing 38 = .ok (.aload_n 0, 1) := by decide +kernel
theorem dX10_choosing_39 : decode cX10_choosing 39 = .ok (.iload_n 2, 1) := by decide +kernel
theorem dX10_choosing_40 : decode cX10_choosing 40 = .ok (.invokevirtual 257, 3) := by decide +kernel
theorem dX10_choosing_43 : decode cX10_choosing 43 = .ok (.aload_n 0, 1) := by decide +kernel
theorem dX10_choosing_44 : decode cX10_choosing 44 = .ok (.invokevirtual 245, 3) := by decide +kernel
theorem dX10_choosing_47 : decode cX10_choosing 47 = .ok (.istore_n 3, 1) := by decide +kernel
theorem dX10_choosing_48 : decode cX10_choosing 48 = .ok (.iload_n 3, 1) := by decide +kernel
theorem dX10_choosing_49 : decode cX10_choosing 49 = .ok (.iconst (-1), 1) := by decide +kernel
theorem dX10_choosing_50 : decode cX10_choosing 50 = .ok (.if_icmp .ne 46, 3) := by decide +kernel
theorem dX10_choosing_53 : decode cX10_choosing 53 = .ok (.aload_n 0, 1) := by decide +kernel
theorem dX10_choosing_54 : decode cX10_choosing 54 = .ok (.dup, 1) := by decide +kernel
theorem dX10_choosing_55 : decode cX10_choosing 55 = .ok (.getfield 238, 3) := by decide +kernel
theorem dX10_choosing_58 : decode cX10_choosing 58 = .ok (.iconst 1, 1) := by decide +kernel
theorem dX10_choosing_59 : decode cX10_choosing 59 = .ok (.isub, 1) := by decide +kernel
theorem dX10_choosing_60 : decode cX10_choosing 60 = .ok (.putfield 238, 3) := by decide +kernel
theorem dX10_choosing_63 : decode cX10_choosing 63 = .ok (.aload_n 0, 1) := by decide +kernel
theorem dX10_choosing_64 : decode cX10_choosing 64 = .ok (.getfield 57, 3) := by decide +kernel
theorem dX10_choosing_67 : decode cX10_choosing 67 = .ok (.iload_n 1, 1) := by decide +kernel
theorem dX10_choosing_68 : decode cX10_choosing 68 = .ok (.aload_n 0, 1) := by decide +kernel
theorem dX10_choosing_69 : decode cX10_choosing 69 = .ok (.getfield 57, 3) := by decide +kernel
theorem dX10_choosing_72 : decode cX10_choosing 72 = .ok (.aload_n 0, 1) := by decide +kernel
theorem dX10_choosing_73 : decode cX10_choosing 73 = .ok (.getfield 238, 3) := by decide +kernel
theorem dX10_choosing_76 : decode cX10_choosing 76 = .ok (.iaload, 1) := by decide +kernel
theorem dX10_choosing_77 : decode cX10_choosing 77 = .ok (.iastore, 1) := by decide +kernel
theorem dX10_choosing_78 : decode cX10_choosing 78 = .ok (.aload_n 0, 1) := by decide +kernel
theorem dX10_choosing_79 : decode cX10_choosing 79 = .ok (.getfield 60, 3) := by decide +kernel
theorem dX10_choosing_82 : decode cX10_choosing 82 = .ok (.iload_n 1, 1) := by decide +kernel
theorem dX10_choosing_83 : decode cX10_choosing 83 = .ok (.aload_n 0, 1) := by decide +kernel
theorem dX10_choosing_84 : decode cX10_choosing 84 = .ok (.getfield 60, 3) := by decide +kernel
theorem dX10_choosing_87 : decode cX10_choosing 87 = .ok (.aload_n 0, 1) := by decide +kernel
theorem dX10_choosing_88 : decode cX10_choosing 88 = .ok (.getfield 238, 3) := by decide +kernel
theorem dX10_choosing_91 : decode cX10_choosing 91 = .ok (.baload, 1) := by decide +kernel
theorem dX10_choosing_92 : decode cX10_choosing 92 = .ok (.bastore, 1) := by decide +kernel
theorem dX10_choosing_93 : decode cX10_choosing 93 = .ok (.goto 22, 3) := by decide +kernel
theorem dX10_choosing_96 : decode cX10_choosing 96 = .ok (.aload_n 0, 1) := by decide +kernel
theorem dX10_choosing_97 : decode cX10_choosing 97 = .ok (.getfield 57, 3) := by decide +kernel
theorem dX10_choosing_100 : decode cX10_choosing 100 = .ok (.iload_n 1, 1) := by decide +kernel
theorem dX10_choosing_101 : decode cX10_choosing 101 = .ok (.iload_n 3, 1) := by decide +kernel
theorem dX10_choosing_102 : decode cX10_choosing 102 = .ok (.iastore, 1) := by decide +kernel
theorem dX10_choosing_103 : decode cX10_choosing 103 = .ok (.aload_n 0, 1) := by decide +kernel
theorem dX10_choosing_104 : decode cX10_choosing 104 = .ok (.getfield 60, 3) := by decide +kernel
theorem dX10_choosing_107 : decode cX10_choosing 107 = .ok (.iload_n 1, 1) := by decide +kernel
theorem dX10_choosing_108 : decode cX10_choosing 108 = .ok (.aload_n 0, 1) := by decide +kernel
theorem dX10_choosing_109 : decode cX10_choosing 109 = .ok (.iload_n 3, 1) := by decide +kernel
theorem dX10_choosing_110 : decode cX10_choosing 110 = .ok (.iload_n 2, 1) := by decide +kernel
theorem dX10_choosing_111 : decode cX10_choosing 111 = .ok (.invokevirtual 241, 3) := by decide +kernel
theorem dX10_choosing_114 : decode cX10_choosing 114 = .ok (.bastore, 1) := by decide +kernel
theorem dX10_choosing_115 : decode cX10_choosing 115 = .ok (.aload_n 0, 1) := by decide +kernel
theorem dX10_choosing_116 : decode cX10_choosing 116 = .ok (.invokevirtual 254, 3) := by decide +kernel
theorem dX10_choosing_119 : decode cX10_choosing 119 = .ok (.istore_n 1, 1) := by decide +kernel
theorem dX10_choosing_120 : decode cX10_choosing 120 = .ok (.goto (-93), 3) := by decide +kernel
theorem dX10_choosing_123 : decode cX10_choosing 123 = .ok (.aload_n 0, 1) := by decide +kernel
theorem dX10_choosing_124 : decode cX10_choosing 124 = .ok (.invokevirtual 260, 3) := by decide +kernel
theorem dX10_choosing_127 : decode cX10_choosing 127 = .ok (.iconst 0, 1) := by decide +kernel
theorem dX10_choosing_128 : decode cX10_choosing 128 = .ok (.istore_n 2, 1) := by decide +kernel
theorem dX10_choosing_129 : decode cX10_choosing 129 = .ok (.iload_n 2, 1) := by decide +kernel
theorem dX10_choosing_130 : decode cX10_choosing 130 = .ok (.aload_n 0, 1) := by decide +kernel
theorem dX10_choosing_131 : decode cX10_choosing 131 = .ok (.getfield 238, 3) := by decide +kernel
theorem dX10_choosing_134 : decode cX10_choosing 134 = .ok (.if_icmp .ge 16, 3) := by decide +kernel
theorem dX10_choosing_137 : decode cX10_choosing 137 = .ok (.aload_n 0, 1) := by decide +kernel
theorem dX10_choosing_138 : decode cX10_choosing 138 = .ok (.getfield 60, 3) := by decide +kernel
theorem dX10_choosing_141 : decode cX10_choosing 141 = .ok (.iload_n 2, 1) := by decide +kernel
theorem dX10_choosing_142 : decode cX10_choosing 142 = .ok (.iconst 0, 1) := by decide +kernel
theorem dX10_choosing_143 : decode cX10_choosing 143 = .ok (.bastore, 1) := by decide +kernel
theorem dX10_choosing_144 : decode cX10_choosing 144 = .ok (.iinc 2 1, 3) := by decide +kernel
theorem dX10_choosing_147 : decode cX10_choosing 147 = .ok (.goto (-18), 3) := by decide +kernel
theorem dX10_choosing_150 : decode cX10_choosing 150 = .ok (.goto (-146), 3) := by decide +kernel
theorem dX10_choosing_153 : decode cX10_choosing 153 = .ok (.return_, 1) := by decide +kernel
theorem dX10_asTheyAre_0 : decode cX10_asTheyAre 0 = .ok (.iconst (-1), 1) := by decide +kernel
theorem dX10_asTheyAre_1 : decode cX10_asTheyAre 1 = .ok (.istore_n 1, 1) := by decide +kernel
theorem dX10_asTheyAre_2 : decode cX10_asTheyAre 2 = .ok (.aload_n 0, 1) := by decide +kernel
theorem dX10_asTheyAre_3 : decode cX10_asTheyAre 3 = .ok (.invokevirtual 245, 3) := by decide +kernel
theorem dX10_asTheyAre_6 : decode cX10_asTheyAre 6 = .ok (.istore_n 2, 1) := by decide +kernel
theorem dX10_asTheyAre_7 : decode cX10_asTheyAre 7 = .ok (.iload_n 2, 1) := by decide +kernel
theorem dX10_asTheyAre_8 : decode cX10_asTheyAre 8 = .ok (.iconst (-1), 1) := by decide +kernel
theorem dX10_asTheyAre_9 : decode cX10_asTheyAre 9 = .ok (.if_icmp .eq 73, 3) := by decide +kernel
theorem dX10_asTheyAre_12 : decode cX10_asTheyAre 12 = .ok (.iload_n 1, 1) := by decide +kernel
theorem dX10_asTheyAre_13 : decode cX10_asTheyAre 13 = .ok (.iconst (-1), 1) := by decide +kernel
theorem dX10_asTheyAre_14 : decode cX10_asTheyAre 14 = .ok (.if_icmp .eq 12, 3) := by decide +kernel
theorem dX10_asTheyAre_17 : decode cX10_asTheyAre 17 = .ok (.aload_n 0, 1) := by decide +kernel
theorem dX10_asTheyAre_18 : decode cX10_asTheyAre 18 = .ok (.iload_n 2, 1) := by decide +kernel
theorem dX10_asTheyAre_19 : decode cX10_asTheyAre 19 = .ok (.iload_n 1, 1) := by decide +kernel
theorem dX10_asTheyAre_20 : decode cX10_asTheyAre 20 = .ok (.invokevirtual 241, 3) := by decide +kernel
theorem dX10_asTheyAre_23 : decode cX10_asTheyAre 23 = .ok (.ifCond .eq 7, 3) := by decide +kernel
theorem dX10_asTheyAre_26 : decode cX10_asTheyAre 26 = .ok (.iconst 1, 1) := by decide +kernel
theorem dX10_asTheyAre_27 : decode cX10_asTheyAre 27 = .ok (.goto 4, 3) := by decide +kernel
theorem dX10_asTheyAre_30 : decode cX10_asTheyAre 30 = .ok (.iconst 0, 1) := by decide +kernel
theorem dX10_asTheyAre_31 : decode cX10_asTheyAre 31 = .ok (.istore_n 3, 1) := by decide +kernel
theorem dX10_asTheyAre_32 : decode cX10_asTheyAre 32 = .ok (.iload_n 3, 1) := by decide +kernel
theorem dX10_asTheyAre_33 : decode cX10_asTheyAre 33 = .ok (.ifCond .eq 12, 3) := by decide +kernel
theorem dX10_asTheyAre_36 : decode cX10_asTheyAre 36 = .ok (.iload_n 1, 1) := by decide +kernel
theorem dX10_asTheyAre_37 : decode cX10_asTheyAre 37 = .ok (.iconst (-1), 1) := by decide +kernel
theorem dX10_asTheyAre_38 : decode cX10_asTheyAre 38 = .ok (.if_icmp .eq 7, 3) := by decide +kernel
theorem dX10_asTheyAre_41 : decode cX10_asTheyAre 41 = .ok (.aload_n 0, 1) := by decide +kernel
theorem dX10_asTheyAre_42 : decode cX10_asTheyAre 42 = .ok (.invokevirtual 260, 3) := by decide +kernel
theorem dX10_asTheyAre_45 : decode cX10_asTheyAre 45 = .ok (.iload_n 3, 1) := by decide +kernel
theorem dX10_asTheyAre_46 : decode cX10_asTheyAre 46 = .ok (.ifCond .eq 14, 3) := by decide +kernel
theorem dX10_asTheyAre_49 : decode cX10_asTheyAre 49 = .ok (.aload_n 0, 1) := by decide +kernel
theorem dX10_asTheyAre_50 : decode cX10_asTheyAre 50 = .ok (.getfield 134, 3) := by decide +kernel
theorem dX10_asTheyAre_53 : decode cX10_asTheyAre 53 = .ok (.ifCond .ne 7, 3) := by decide +kernel
theorem dX10_asTheyAre_56 : decode cX10_asTheyAre 56 = .ok (.aload_n 0, 1) := by decide +kernel
theorem dX10_asTheyAre_57 : decode cX10_asTheyAre 57 = .ok (.invokevirtual 251, 3) := by decide +kernel
theorem dX10_asTheyAre_60 : decode cX10_asTheyAre 60 = .ok (.aload_n 0, 1) := by decide +kernel
theorem dX10_asTheyAre_61 : decode cX10_asTheyAre 61 = .ok (.getfield 134, 3) := by decide +kernel
theorem dX10_asTheyAre_64 : decode cX10_asTheyAre 64 = .ok (.ifCond .ne 8, 3) := by decide +kernel
theorem dX10_asTheyAre_67 : decode cX10_asTheyAre 67 = .ok (.aload_n 0, 1) := by decide +kernel
theorem dX10_asTheyAre_68 : decode cX10_asTheyAre 68 = .ok (.iload_n 2, 1) := by decide +kernel
theorem dX10_asTheyAre_69 : decode cX10_asTheyAre 69 = .ok (.invokevirtual 257, 3) := by decide +kernel
theorem dX10_asTheyAre_72 : decode cX10_asTheyAre 72 = .ok (.iload_n 2, 1) := by decide +kernel
theorem dX10_asTheyAre_73 : decode cX10_asTheyAre 73 = .ok (.istore_n 1, 1) := by decide +kernel
theorem dX10_asTheyAre_74 : decode cX10_asTheyAre 74 = .ok (.aload_n 0, 1) := by decide +kernel
theorem dX10_asTheyAre_75 : decode cX10_asTheyAre 75 = .ok (.invokevirtual 245, 3) := by decide +kernel
theorem dX10_asTheyAre_78 : decode cX10_asTheyAre 78 = .ok (.istore_n 2, 1) := by decide +kernel
theorem dX10_asTheyAre_79 : decode cX10_asTheyAre 79 = .ok (.goto (-72), 3) := by decide +kernel
theorem dX10_asTheyAre_82 : decode cX10_asTheyAre 82 = .ok (.iload_n 1, 1) := by decide +kernel
theorem dX10_asTheyAre_83 : decode cX10_asTheyAre 83 = .ok (.iconst (-1), 1) := by decide +kernel
theorem dX10_asTheyAre_84 : decode cX10_asTheyAre 84 = .ok (.if_icmp .eq 14, 3) := by decide +kernel
theorem dX10_asTheyAre_87 : decode cX10_asTheyAre 87 = .ok (.aload_n 0, 1) := by decide +kernel
theorem dX10_asTheyAre_88 : decode cX10_asTheyAre 88 = .ok (.getfield 134, 3) := by decide +kernel
theorem dX10_asTheyAre_91 : decode cX10_asTheyAre 91 = .ok (.ifCond .ne 7, 3) := by decide +kernel
theorem dX10_asTheyAre_94 : decode cX10_asTheyAre 94 = .ok (.aload_n 0, 1) := by decide +kernel
theorem dX10_asTheyAre_95 : decode cX10_asTheyAre 95 = .ok (.invokevirtual 260, 3) := by decide +kernel
theorem dX10_asTheyAre_98 : decode cX10_asTheyAre 98 = .ok (.return_, 1) := by decide +kernel
theorem dX10_ended_0 : decode cX10_ended 0 = .ok (.aload_n 0, 1) := by decide +kernel
theorem dX10_ended_1 : decode cX10_ended 1 = .ok (.aload_n 0, 1) := by decide +kernel
theorem dX10_ended_2 : decode cX10_ended 2 = .ok (.getfield 134, 3) := by decide +kernel
theorem dX10_ended_5 : decode cX10_ended 5 = .ok (.iconst 1, 1) := by decide +kernel
theorem dX10_ended_6 : decode cX10_ended 6 = .ok (.if_icmp .ne 7, 3) := by decide +kernel
theorem dX10_ended_9 : decode cX10_ended 9 = .ok (.iconst 1, 1) := by decide +kernel
theorem dX10_ended_10 : decode cX10_ended 10 = .ok (.goto 4, 3) := by decide +kernel
theorem dX10_ended_13 : decode cX10_ended 13 = .ok (.iconst 0, 1) := by decide +kernel
theorem dX10_ended_14 : decode cX10_ended 14 = .ok (.putfield 197, 3) := by decide +kernel
theorem dX10_ended_17 : decode cX10_ended 17 = .ok (.aload_n 0, 1) := by decide +kernel
theorem dX10_ended_18 : decode cX10_ended 18 = .ok (.aload_n 0, 1) := by decide +kernel
theorem dX10_ended_19 : decode cX10_ended 19 = .ok (.getfield 134, 3) := by decide +kernel
theorem dX10_ended_22 : decode cX10_ended 22 = .ok (.iconst 2, 1) := by decide +kernel
theorem dX10_ended_23 : decode cX10_ended 23 = .ok (.if_icmp .ne 7, 3) := by decide +kernel
theorem dX10_ended_26 : decode cX10_ended 26 = .ok (.iload_n 1, 1) := by decide +kernel
theorem dX10_ended_27 : decode cX10_ended 27 = .ok (.goto 4, 3) := by decide +kernel
theorem dX10_ended_30 : decode cX10_ended 30 = .ok (.iconst 0, 1) := by decide +kernel
theorem dX10_ended_31 : decode cX10_ended 31 = .ok (.putfield 125, 3) := by decide +kernel
theorem dX10_ended_34 : decode cX10_ended 34 = .ok (.aload_n 0, 1) := by decide +kernel
theorem dX10_ended_35 : decode cX10_ended 35 = .ok (.getfield 197, 3) := by decide +kernel
theorem dX10_ended_38 : decode cX10_ended 38 = .ok (.ifCond .eq 8, 3) := by decide +kernel
theorem dX10_ended_41 : decode cX10_ended 41 = .ok (.bipush (-2), 2) := by decide +kernel
theorem dX10_ended_43 : decode cX10_ended 43 = .ok (.goto 7, 3) := by decide +kernel
theorem dX10_ended_46 : decode cX10_ended 46 = .ok (.aload_n 0, 1) := by decide +kernel
theorem dX10_ended_47 : decode cX10_ended 47 = .ok (.getfield 200, 3) := by decide +kernel
theorem dX10_ended_50 : decode cX10_ended 50 = .ok (.ireturn, 1) := by decide +kernel
theorem dX10_form_0 : decode cX10_form 0 = .ok (.aload_n 0, 1) := by decide +kernel
theorem dX10_form_1 : decode cX10_form 1 = .ok (.iload_n 1, 1) := by decide +kernel
theorem dX10_form_2 : decode cX10_form 2 = .ok (.iconst 0, 1) := by decide +kernel
theorem dX10_form_3 : decode cX10_form 3 = .ok (.iconst 2, 1) := by decide +kernel
theorem dX10_form_4 : decode cX10_form 4 = .ok (.invokestatic 193, 3) := by decide +kernel
theorem dX10_form_7 : decode cX10_form 7 = .ok (.ifCond .ne 7, 3) := by decide +kernel
theorem dX10_form_10 : decode cX10_form 10 = .ok (.iconst 1, 1) := by decide +kernel
theorem dX10_form_11 : decode cX10_form 11 = .ok (.goto 15, 3) := by decide +kernel
theorem dX10_form_14 : decode cX10_form 14 = .ok (.aload_n 0, 1) := by decide +kernel
theorem dX10_form_15 : decode cX10_form 15 = .ok (.getfield 197, 3) := by decide +kernel
theorem dX10_form_18 : decode cX10_form 18 = .ok (.ifCond .eq 7, 3) := by decide +kernel
theorem dX10_form_21 : decode cX10_form 21 = .ok (.iconst 2, 1) := by decide +kernel
theorem dX10_form_22 : decode cX10_form 22 = .ok (.goto 4, 3) := by decide +kernel
theorem dX10_form_25 : decode cX10_form 25 = .ok (.iconst 0, 1) := by decide +kernel
theorem dX10_form_26 : decode cX10_form 26 = .ok (.putfield 125, 3) := by decide +kernel
theorem dX10_form_29 : decode cX10_form 29 = .ok (.aload_n 0, 1) := by decide +kernel
theorem dX10_form_30 : decode cX10_form 30 = .ok (.getfield 125, 3) := by decide +kernel
theorem dX10_form_33 : decode cX10_form 33 = .ok (.ifCond .le 5, 3) := by decide +kernel
theorem dX10_form_36 : decode cX10_form 36 = .ok (.iconst 0, 1) := by decide +kernel
theorem dX10_form_37 : decode cX10_form 37 = .ok (.ireturn, 1) := by decide +kernel
theorem dX10_form_38 : decode cX10_form 38 = .ok (.aload_n 0, 1) := by decide +kernel
theorem dX10_form_39 : decode cX10_form 39 = .ok (.getfield 24, 3) := by decide +kernel
theorem dX10_form_42 : decode cX10_form 42 = .ok (.iconst 0, 1) := by decide +kernel
theorem dX10_form_43 : decode cX10_form 43 = .ok (.iaload, 1) := by decide +kernel
theorem dX10_form_44 : decode cX10_form 44 = .ok (.istore_n 2, 1) := by decide +kernel
theorem dX10_form_45 : decode cX10_form 45 = .ok (.aload_n 0, 1) := by decide +kernel
theorem dX10_form_46 : decode cX10_form 46 = .ok (.getfield 27, 3) := by decide +kernel
theorem dX10_form_49 : decode cX10_form 49 = .ok (.iconst 0, 1) := by decide +kernel
theorem dX10_form_50 : decode cX10_form 50 = .ok (.iaload, 1) := by decide +kernel
theorem dX10_form_51 : decode cX10_form 51 = .ok (.istore_n 3, 1) := by decide +kernel
theorem dX10_form_52 : decode cX10_form 52 = .ok (.aload_n 0, 1) := by decide +kernel
theorem dX10_form_53 : decode cX10_form 53 = .ok (.getfield 30, 3) := by decide +kernel
theorem dX10_form_56 : decode cX10_form 56 = .ok (.iconst 0, 1) := by decide +kernel
theorem dX10_form_57 : decode cX10_form 57 = .ok (.iaload, 1) := by decide +kernel
theorem dX10_form_58 : decode cX10_form 58 = .ok (.istore 4, 2) := by decide +kernel
theorem dX10_form_60 : decode cX10_form 60 = .ok (.aload_n 0, 1) := by decide +kernel
theorem dX10_form_61 : decode cX10_form 61 = .ok (.iconst 0, 1) := by decide +kernel
theorem dX10_form_62 : decode cX10_form 62 = .ok (.putfield 235, 3) := by decide +kernel
theorem dX10_form_65 : decode cX10_form 65 = .ok (.aload_n 0, 1) := by decide +kernel
theorem dX10_form_66 : decode cX10_form 66 = .ok (.invokevirtual 209, 3) := by decide +kernel
theorem dX10_form_69 : decode cX10_form 69 = .ok (.aload_n 0, 1) := by decide +kernel
theorem dX10_form_70 : decode cX10_form 70 = .ok (.getfield 203, 3) := by decide +kernel
theorem dX10_form_73 : decode cX10_form 73 = .ok (.ifCond .le 28, 3) := by decide +kernel
theorem dX10_form_76 : decode cX10_form 76 = .ok (.aload_n 0, 1) := by decide +kernel
theorem dX10_form_77 : decode cX10_form 77 = .ok (.aload_n 0, 1) := by decide +kernel
theorem dX10_form_78 : decode cX10_form 78 = .ok (.getfield 39, 3) := by decide +kernel
theorem dX10_form_81 : decode cX10_form 81 = .ok (.aload_n 0, 1) := by decide +kernel
theorem dX10_form_82 : decode cX10_form 82 = .ok (.getfield 203, 3) := by decide +kernel
theorem dX10_form_85 : decode cX10_form 85 = .ok (.invokevirtual 171, 3) := by decide +kernel
theorem dX10_form_88 : decode cX10_form 88 = .ok (.istore 5, 2) := by decide +kernel
theorem dX10_form_90 : decode cX10_form 90 = .ok (.aload_n 0, 1) := by decide +kernel
theorem dX10_form_91 : decode cX10_form 91 = .ok (.iconst 0, 1) := by decide +kernel
theorem dX10_form_92 : decode cX10_form 92 = .ok (.iload 5, 2) := by decide +kernel
theorem dX10_form_94 : decode cX10_form 94 = .ok (.aload_n 0, 1) := by decide +kernel
theorem dX10_form_95 : decode cX10_form 95 = .ok (.getfield 203, 3) := by decide +kernel
theorem dX10_form_98 : decode cX10_form 98 = .ok (.invokevirtual 175, 3) := by decide +kernel
theorem dX10_form_101 : decode cX10_form 101 = .ok (.aload_n 0, 1) := by decide +kernel
theorem dX10_form_102 : decode cX10_form 102 = .ok (.aload_n 0, 1) := by decide +kernel
theorem dX10_form_103 : decode cX10_form 103 = .ok (.getfield 24, 3) := by decide +kernel
theorem dX10_form_106 : decode cX10_form 106 = .ok (.iconst 0, 1) := by decide +kernel
theorem dX10_form_107 : decode cX10_form 107 = .ok (.iaload, 1) := by decide +kernel
theorem dX10_form_108 : decode cX10_form 108 = .ok (.putfield 226, 3) := by decide +kernel
theorem dX10_form_111 : decode cX10_form 111 = .ok (.aload_n 0, 1) := by decide +kernel
theorem dX10_form_112 : decode cX10_form 112 = .ok (.iconst 0, 1) := by decide +kernel
theorem dX10_form_113 : decode cX10_form 113 = .ok (.putfield 223, 3) := by decide +kernel
theorem dX10_form_116 : decode cX10_form 116 = .ok (.aload_n 0, 1) := by decide +kernel
theorem dX10_form_117 : decode cX10_form 117 = .ok (.aload_n 0, 1) := by decide +kernel
theorem dX10_form_118 : decode cX10_form 118 = .ok (.getfield 134, 3) := by decide +kernel
theorem dX10_form_121 : decode cX10_form 121 = .ok (.ifCond .le 7, 3) := by decide +kernel
theorem dX10_form_124 : decode cX10_form 124 = .ok (.iconst 0, 1) := by decide +kernel
theorem dX10_form_125 : decode cX10_form 125 = .ok (.goto 9, 3) := by decide +kernel
theorem dX10_form_128 : decode cX10_form 128 = .ok (.aload_n 0, 1) := by decide +kernel
theorem dX10_form_129 : decode cX10_form 129 = .ok (.getfield 30, 3) := by decide +kernel
theorem dX10_form_132 : decode cX10_form 132 = .ok (.iconst 0, 1) := by decide +kernel
theorem dX10_form_133 : decode cX10_form 133 = .ok (.iaload, 1) := by decide +kernel
theorem dX10_form_134 : decode cX10_form 134 = .ok (.putfield 220, 3) := by decide +kernel
theorem dX10_form_137 : decode cX10_form 137 = .ok (.aload_n 0, 1) := by decide +kernel
theorem dX10_form_138 : decode cX10_form 138 = .ok (.iconst 0, 1) := by decide +kernel
theorem dX10_form_139 : decode cX10_form 139 = .ok (.putfield 238, 3) := by decide +kernel
theorem dX10_form_142 : decode cX10_form 142 = .ok (.iload_n 1, 1) := by decide +kernel
theorem dX10_form_143 : decode cX10_form 143 = .ok (.ifCond .ne 10, 3) := by decide +kernel
theorem dX10_form_146 : decode cX10_form 146 = .ok (.aload_n 0, 1) := by decide +kernel
theorem dX10_form_147 : decode cX10_form 147 = .ok (.invokevirtual 263, 3) := by decide +kernel
theorem dX10_form_150 : decode cX10_form 150 = .ok (.goto 19, 3) := by decide +kernel
theorem dX10_form_153 : decode cX10_form 153 = .ok (.iload_n 1, 1) := by decide +kernel
theorem dX10_form_154 : decode cX10_form 154 = .ok (.iconst 1, 1) := by decide +kernel
theorem dX10_form_155 : decode cX10_form 155 = .ok (.if_icmp .ne 10, 3) := by decide +kernel
theorem dX10_form_158 : decode cX10_form 158 = .ok (.aload_n 0, 1) := by decide +kernel
theorem dX10_form_159 : decode cX10_form 159 = .ok (.invokevirtual 266, 3) := by decide +kernel
theorem dX10_form_162 : decode cX10_form 162 = .ok (.goto 7, 3) := by decide +kernel
theorem dX10_form_165 : decode cX10_form 165 = .ok (.aload_n 0, 1) := by decide +kernel
theorem dX10_form_166 : decode cX10_form 166 = .ok (.invokevirtual 269, 3) := by decide +kernel
theorem dX10_form_169 : decode cX10_form 169 = .ok (.aload_n 0, 1) := by decide +kernel
theorem dX10_form_170 : decode cX10_form 170 = .ok (.getfield 134, 3) := by decide +kernel
theorem dX10_form_173 : decode cX10_form 173 = .ok (.ifCond .le 78, 3) := by decide +kernel
theorem dX10_form_176 : decode cX10_form 176 = .ok (.aload_n 0, 1) := by decide +kernel
theorem dX10_form_177 : decode cX10_form 177 = .ok (.invokevirtual 272, 3) := by decide +kernel
theorem dX10_form_180 : decode cX10_form 180 = .ok (.aload_n 0, 1) := by decide +kernel
theorem dX10_form_181 : decode cX10_form 181 = .ok (.getfield 24, 3) := by decide +kernel
theorem dX10_form_184 : decode cX10_form 184 = .ok (.iconst 0, 1) := by decide +kernel
theorem dX10_form_185 : decode cX10_form 185 = .ok (.iload_n 2, 1) := by decide +kernel
theorem dX10_form_186 : decode cX10_form 186 = .ok (.iastore, 1) := by decide +kernel
theorem dX10_form_187 : decode cX10_form 187 = .ok (.aload_n 0, 1) := by decide +kernel
theorem dX10_form_188 : decode cX10_form 188 = .ok (.getfield 27, 3) := by decide +kernel
theorem dX10_form_191 : decode cX10_form 191 = .ok (.iconst 0, 1) := by decide +kernel
theorem dX10_form_192 : decode cX10_form 192 = .ok (.iload_n 3, 1) := by decide +kernel
theorem dX10_form_193 : decode cX10_form 193 = .ok (.iastore, 1) := by decide +kernel
theorem dX10_form_194 : decode cX10_form 194 = .ok (.aload_n 0, 1) := by decide +kernel
theorem dX10_form_195 : decode cX10_form 195 = .ok (.getfield 30, 3) := by decide +kernel
theorem dX10_form_198 : decode cX10_form 198 = .ok (.iconst 0, 1) := by decide +kernel
theorem dX10_form_199 : decode cX10_form 199 = .ok (.iload 4, 2) := by decide +kernel
theorem dX10_form_201 : decode cX10_form 201 = .ok (.iastore, 1) := by decide +kernel
theorem dX10_form_202 : decode cX10_form 202 = .ok (.iload_n 3, 1) := by decide +kernel
theorem dX10_form_203 : decode cX10_form 203 = .ok (.iconst (-1), 1) := by decide +kernel
theorem dX10_form_204 : decode cX10_form 204 = .ok (.if_icmp .eq 10, 3) := by decide +kernel
theorem dX10_form_207 : decode cX10_form 207 = .ok (.aload_n 0, 1) := by decide +kernel
theorem dX10_form_208 : decode cX10_form 208 = .ok (.getfield 20, 3) := by decide +kernel
theorem dX10_form_211 : decode cX10_form 211 = .ok (.iload_n 3, 1) := by decide +kernel
theorem dX10_form_212 : decode cX10_form 212 = .ok (.iconst (-1), 1) := by decide +kernel
theorem dX10_form_213 : decode cX10_form 213 = .ok (.iastore, 1) := by decide +kernel
theorem dX10_form_214 : decode cX10_form 214 = .ok (.iconst 0, 1) := by decide +kernel
theorem dX10_form_215 : decode cX10_form 215 = .ok (.istore 5, 2) := by decide +kernel
theorem dX10_form_217 : decode cX10_form 217 = .ok (.iload 5, 2) := by decide +kernel
theorem dX10_form_219 : decode cX10_form 219 = .ok (.aload_n 0, 1) := by decide +kernel
theorem dX10_form_220 : decode cX10_form 220 = .ok (.getfield 235, 3) := by decide +kernel
theorem dX10_form_223 : decode cX10_form 223 = .ok (.if_icmp .ge 22, 3) := by decide +kernel
theorem dX10_form_226 : decode cX10_form 226 = .ok (.aload_n 0, 1) := by decide +kernel
theorem dX10_form_227 : decode cX10_form 227 = .ok (.getfield 33, 3) := by decide +kernel
theorem dX10_form_230 : decode cX10_form 230 = .ok (.aload_n 0, 1) := by decide +kernel
theorem dX10_form_231 : decode cX10_form 231 = .ok (.getfield 63, 3) := by decide +kernel
theorem dX10_form_234 : decode cX10_form 234 = .ok (.iload 5, 2) := by decide +kernel
theorem dX10_form_236 : decode cX10_form 236 = .ok (.iaload, 1) := by decide +kernel
theorem dX10_form_237 : decode cX10_form 237 = .ok (.iconst 0, 1) := by decide +kernel
theorem dX10_form_238 : decode cX10_form 238 = .ok (.bastore, 1) := by decide +kernel
theorem dX10_form_239 : decode cX10_form 239 = .ok (.iinc 5 1, 3) := by decide +kernel
theorem dX10_form_242 : decode cX10_form 242 = .ok (.goto (-25), 3) := by decide +kernel
theorem dX10_form_245 : decode cX10_form 245 = .ok (.aload_n 0, 1) := by decide +kernel
theorem dX10_form_246 : decode cX10_form 246 = .ok (.iconst 3, 1) := by decide +kernel
theorem dX10_form_247 : decode cX10_form 247 = .ok (.invokevirtual 275, 3) := by decide +kernel
theorem dX10_form_250 : decode cX10_form 250 = .ok (.ireturn, 1) := by decide +kernel
theorem dX10_form_251 : decode cX10_form 251 = .ok (.aload_n 0, 1) := by decide +kernel
theorem dX10_form_252 : decode cX10_form 252 = .ok (.iconst 0, 1) := by decide +kernel
theorem dX10_form_253 : decode cX10_form 253 = .ok (.invokevirtual 279, 3) := by decide +kernel
theorem dX10_form_256 : decode cX10_form 256 = .ok (.aload_n 0, 1) := by decide +kernel
theorem dX10_form_257 : decode cX10_form 257 = .ok (.iconst 0, 1) := by decide +kernel
theorem dX10_form_258 : decode cX10_form 258 = .ok (.putfield 203, 3) := by decide +kernel
theorem dX10_form_261 : decode cX10_form 261 = .ok (.iconst 0, 1) := by decide +kernel
theorem dX10_form_262 : decode cX10_form 262 = .ok (.istore 5, 2) := by decide +kernel
theorem dX10_form_264 : decode cX10_form 264 = .ok (.iload 5, 2) := by decide +kernel
theorem dX10_form_266 : decode cX10_form 266 = .ok (.aload_n 0, 1) := by decide +kernel
theorem dX10_form_267 : decode cX10_form 267 = .ok (.getfield 235, 3) := by decide +kernel
theorem dX10_form_270 : decode cX10_form 270 = .ok (.if_icmp .ge 35, 3) := by decide +kernel
theorem dX10_form_273 : decode cX10_form 273 = .ok (.aload_n 0, 1) := by decide +kernel
theorem dX10_form_274 : decode cX10_form 274 = .ok (.getfield 36, 3) := by decide +kernel
theorem dX10_form_277 : decode cX10_form 277 = .ok (.aload_n 0, 1) := by decide +kernel
theorem dX10_form_278 : decode cX10_form 278 = .ok (.getfield 200, 3) := by decide +kernel
theorem dX10_form_281 : decode cX10_form 281 = .ok (.aload_n 0, 1) := by decide +kernel
theorem dX10_form_282 : decode cX10_form 282 = .ok (.getfield 63, 3) := by decide +kernel
theorem dX10_form_285 : decode cX10_form 285 = .ok (.iload 5, 2) := by decide +kernel
theorem dX10_form_287 : decode cX10_form 287 = .ok (.iaload, 1) := by decide +kernel
theorem dX10_form_288 : decode cX10_form 288 = .ok (.iastore, 1) := by decide +kernel
theorem dX10_form_289 : decode cX10_form 289 = .ok (.aload_n 0, 1) := by decide +kernel
theorem dX10_form_290 : decode cX10_form 290 = .ok (.dup, 1) := by decide +kernel
theorem dX10_form_291 : decode cX10_form 291 = .ok (.getfield 200, 3) := by decide +kernel
theorem dX10_form_294 : decode cX10_form 294 = .ok (.iconst 1, 1) := by decide +kernel
theorem dX10_form_295 : decode cX10_form 295 = .ok (.iadd, 1) := by decide +kernel
theorem dX10_form_296 : decode cX10_form 296 = .ok (.putfield 200, 3) := by decide +kernel
theorem dX10_form_299 : decode cX10_form 299 = .ok (.iinc 5 1, 3) := by decide +kernel
theorem dX10_form_302 : decode cX10_form 302 = .ok (.goto (-38), 3) := by decide +kernel
theorem dX10_form_305 : decode cX10_form 305 = .ok (.aload_n 0, 1) := by decide +kernel
theorem dX10_form_306 : decode cX10_form 306 = .ok (.iconst 3, 1) := by decide +kernel
theorem dX10_form_307 : decode cX10_form 307 = .ok (.invokevirtual 275, 3) := by decide +kernel
theorem dX10_form_310 : decode cX10_form 310 = .ok (.ireturn, 1) := by decide +kernel
theorem dX10_cellOf_0 : decode cX10_cellOf 0 = .ok (.bipush 64, 2) := by decide +kernel
theorem dX10_cellOf_2 : decode cX10_cellOf 2 = .ok (.aload_n 0, 1) := by decide +kernel
theorem dX10_cellOf_3 : decode cX10_cellOf 3 = .ok (.getfield 69, 3) := by decide +kernel
theorem dX10_cellOf_6 : decode cX10_cellOf 6 = .ok (.iload_n 1, 1) := by decide +kernel
theorem dX10_cellOf_7 : decode cX10_cellOf 7 = .ok (.iaload, 1) := by decide +kernel
theorem dX10_cellOf_8 : decode cX10_cellOf 8 = .ok (.imul, 1) := by decide +kernel
theorem dX10_cellOf_9 : decode cX10_cellOf 9 = .ok (.aload_n 0, 1) := by decide +kernel
theorem dX10_cellOf_10 : decode cX10_cellOf 10 = .ok (.getfield 72, 3) := by decide +kernel
theorem dX10_cellOf_13 : decode cX10_cellOf 13 = .ok (.iload_n 1, 1) := by decide +kernel
theorem dX10_cellOf_14 : decode cX10_cellOf 14 = .ok (.iaload, 1) := by decide +kernel
theorem dX10_cellOf_15 : decode cX10_cellOf 15 = .ok (.aload_n 0, 1) := by decide +kernel
theorem dX10_cellOf_16 : decode cX10_cellOf 16 = .ok (.getfield 116, 3) := by decide +kernel
theorem dX10_cellOf_19 : decode cX10_cellOf 19 = .ok (.iconst 1, 1) := by decide +kernel
theorem dX10_cellOf_20 : decode cX10_cellOf 20 = .ok (.iadd, 1) := by decide +kernel
theorem dX10_cellOf_21 : decode cX10_cellOf 21 = .ok (.imul, 1) := by decide +kernel
theorem dX10_cellOf_22 : decode cX10_cellOf 22 = .ok (.iadd, 1) := by decide +kernel
theorem dX10_cellOf_23 : decode cX10_cellOf 23 = .ok (.ireturn, 1) := by decide +kernel
theorem dX10_firstOf_0 : decode cX10_firstOf 0 = .ok (.iconst (-1), 1) := by decide +kernel
theorem dX10_firstOf_1 : decode cX10_firstOf 1 = .ok (.istore_n 2, 1) := by decide +kernel
theorem dX10_firstOf_2 : decode cX10_firstOf 2 = .ok (.iconst 0, 1) := by decide +kernel
theorem dX10_firstOf_3 : decode cX10_firstOf 3 = .ok (.istore_n 3, 1) := by decide +kernel
theorem dX10_firstOf_4 : decode cX10_firstOf 4 = .ok (.iload_n 3, 1) := by decide +kernel
theorem dX10_firstOf_5 : decode cX10_firstOf 5 = .ok (.iload_n 1, 1) := by decide +kernel
theorem dX10_firstOf_6 : decode cX10_firstOf 6 = .ok (.if_icmp .ge 48, 3) := by decide +kernel
theorem dX10_firstOf_9 : decode cX10_firstOf 9 = .ok (.aload_n 0, 1) := by decide +kernel
theorem dX10_firstOf_10 : decode cX10_firstOf 10 = .ok (.getfield 134, 3) := by decide +kernel
theorem dX10_firstOf_13 : decode cX10_firstOf 13 = .ok (.ifCond .ne 41, 3) := by decide +kernel
theorem dX10_firstOf_16 : decode cX10_firstOf 16 = .ok (.aload_n 0, 1) := by decide +kernel
theorem dX10_firstOf_17 : decode cX10_firstOf 17 = .ok (.getfield 75, 3) := by decide +kernel
theorem dX10_firstOf_20 : decode cX10_firstOf 20 = .ok (.iload_n 3, 1) := by decide +kernel
theorem dX10_firstOf_21 : decode cX10_firstOf 21 = .ok (.iaload, 1) := by decide +kernel
theorem dX10_firstOf_22 : decode cX10_firstOf 22 = .ok (.ifCond .le 26, 3) := by decide +kernel
theorem dX10_firstOf_25 : decode cX10_firstOf 25 = .ok (.iload_n 2, 1) := by decide +kernel
theorem dX10_firstOf_26 : decode cX10_firstOf 26 = .ok (.ifCond .lt 20, 3) := by decide +kernel
theorem dX10_firstOf_29 : decode cX10_firstOf 29 = .ok (.aload_n 0, 1) := by decide +kernel
theorem dX10_firstOf_30 : decode cX10_firstOf 30 = .ok (.aload_n 0, 1) := by decide +kernel
theorem dX10_firstOf_31 : decode cX10_firstOf 31 = .ok (.iload_n 3, 1) := by decide +kernel
theorem dX10_firstOf_32 : decode cX10_firstOf 32 = .ok (.invokevirtual 282, 3) := by decide +kernel
theorem dX10_firstOf_35 : decode cX10_firstOf 35 = .ok (.aload_n 0, 1) := by decide +kernel
theorem dX10_firstOf_36 : decode cX10_firstOf 36 = .ok (.iload_n 2, 1) := by decide +kernel
theorem dX10_firstOf_37 : decode cX10_firstOf 37 = .ok (.invokevirtual 282, 3) := by decide +kernel
theorem dX10_firstOf_40 : decode cX10_firstOf 40 = .ok (.invokevirtual 241, 3) := by decide +kernel
theorem dX10_firstOf_43 : decode cX10_firstOf 43 = .ok (.ifCond .eq 5, 3) := by decide +kernel
theorem dX10_firstOf_46 : decode cX10_firstOf 46 = .ok (.iload_n 3, 1) := by decide +kernel
theorem dX10_firstOf_47 : decode cX10_firstOf 47 = .ok (.istore_n 2, 1) := by decide +kernel
theorem dX10_firstOf_48 : decode cX10_firstOf 48 = .ok (.iinc 3 1, 3) := by decide +kernel
theorem dX10_firstOf_51 : decode cX10_firstOf 51 = .ok (.goto (-47), 3) := by decide +kernel
theorem dX10_firstOf_54 : decode cX10_firstOf 54 = .ok (.iload_n 2, 1) := by decide +kernel
theorem dX10_firstOf_55 : decode cX10_firstOf 55 = .ok (.ireturn, 1) := by decide +kernel
theorem dX10_onward_0 : decode cX10_onward 0 = .ok (.aload_n 0, 1) := by decide +kernel
theorem dX10_onward_1 : decode cX10_onward 1 = .ok (.getfield 75, 3) := by decide +kernel
theorem dX10_onward_4 : decode cX10_onward 4 = .ok (.iload_n 1, 1) := by decide +kernel
theorem dX10_onward_5 : decode cX10_onward 5 = .ok (.dup2, 1) := by decide +kernel
theorem dX10_onward_6 : decode cX10_onward 6 = .ok (.iaload, 1) := by decide +kernel
theorem dX10_onward_7 : decode cX10_onward 7 = .ok (.iconst 1, 1) := by decide +kernel
theorem dX10_onward_8 : decode cX10_onward 8 = .ok (.isub, 1) := by decide +kernel
theorem dX10_onward_9 : decode cX10_onward 9 = .ok (.iastore, 1) := by decide +kernel
theorem dX10_onward_10 : decode cX10_onward 10 = .ok (.aload_n 0, 1) := by decide +kernel
theorem dX10_onward_11 : decode cX10_onward 11 = .ok (.getfield 72, 3) := by decide +kernel
theorem dX10_onward_14 : decode cX10_onward 14 = .ok (.iload_n 1, 1) := by decide +kernel
theorem dX10_onward_15 : decode cX10_onward 15 = .ok (.dup2, 1) := by decide +kernel
theorem dX10_onward_16 : decode cX10_onward 16 = .ok (.iaload, 1) := by decide +kernel
theorem dX10_onward_17 : decode cX10_onward 17 = .ok (.iconst 1, 1) := by decide +kernel
theorem dX10_onward_18 : decode cX10_onward 18 = .ok (.iadd, 1) := by decide +kernel
theorem dX10_onward_19 : decode cX10_onward 19 = .ok (.iastore, 1) := by decide +kernel
theorem dX10_onward_20 : decode cX10_onward 20 = .ok (.aload_n 0, 1) := by decide +kernel
theorem dX10_onward_21 : decode cX10_onward 21 = .ok (.getfield 72, 3) := by decide +kernel
theorem dX10_onward_24 : decode cX10_onward 24 = .ok (.iload_n 1, 1) := by decide +kernel
theorem dX10_onward_25 : decode cX10_onward 25 = .ok (.iaload, 1) := by decide +kernel
theorem dX10_onward_26 : decode cX10_onward 26 = .ok (.aload_n 0, 1) := by decide +kernel
theorem dX10_onward_27 : decode cX10_onward 27 = .ok (.invokevirtual 179, 3) := by decide +kernel
theorem dX10_onward_30 : decode cX10_onward 30 = .ok (.if_icmp .ne 46, 3) := by decide +kernel
theorem dX10_onward_33 : decode cX10_onward 33 = .ok (.aload_n 0, 1) := by decide +kernel
theorem dX10_onward_34 : decode cX10_onward 34 = .ok (.getfield 75, 3) := by decide +kernel
theorem dX10_onward_37 : decode cX10_onward 37 = .ok (.iload_n 1, 1) := by decide +kernel
theorem dX10_onward_38 : decode cX10_onward 38 = .ok (.iaload, 1) := by decide +kernel
theorem dX10_onward_39 : decode cX10_onward 39 = .ok (.ifCond .le 37, 3) := by decide +kernel
theorem dX10_onward_42 : decode cX10_onward 42 = .ok (.aload_n 0, 1) := by decide +kernel
theorem dX10_onward_43 : decode cX10_onward 43 = .ok (.getfield 69, 3) := by decide +kernel
theorem dX10_onward_46 : decode cX10_onward 46 = .ok (.iload_n 1, 1) := by decide +kernel
theorem dX10_onward_47 : decode cX10_onward 47 = .ok (.aload_n 0, 1) := by decide +kernel
theorem dX10_onward_48 : decode cX10_onward 48 = .ok (.getfield 20, 3) := by decide +kernel
theorem dX10_onward_51 : decode cX10_onward 51 = .ok (.aload_n 0, 1) := by decide +kernel
theorem dX10_onward_52 : decode cX10_onward 52 = .ok (.getfield 69, 3) := by decide +kernel
theorem dX10_onward_55 : decode cX10_onward 55 = .ok (.iload_n 1, 1) := by decide +kernel
theorem dX10_onward_56 : decode cX10_onward 56 = .ok (.iaload, 1) := by decide +kernel
theorem dX10_onward_57 : decode cX10_onward 57 = .ok (.iaload, 1) := by decide +kernel
theorem dX10_onward_58 : decode cX10_onward 58 = .ok (.iastore, 1) := by decide +kernel
theorem dX10_onward_59 : decode cX10_onward 59 = .ok (.aload_n 0, 1) := by decide +kernel
theorem dX10_onward_60 : decode cX10_onward 60 = .ok (.getfield 72, 3) := by decide +kernel
theorem dX10_onward_63 : decode cX10_onward 63 = .ok (.iload_n 1, 1) := by decide +kernel
theorem dX10_onward_64 : decode cX10_onward 64 = .ok (.iconst 0, 1) := by decide +kernel
theorem dX10_onward_65 : decode cX10_onward 65 = .ok (.iastore, 1) := by decide +kernel
theorem dX10_onward_66 : decode cX10_onward 66 = .ok (.aload_n 0, 1) := by decide +kernel
theorem dX10_onward_67 : decode cX10_onward 67 = .ok (.aload_n 0, 1) := by decide +kernel
theorem dX10_onward_68 : decode cX10_onward 68 = .ok (.getfield 69, 3) := by decide +kernel
theorem dX10_onward_71 : decode cX10_onward 71 = .ok (.iload_n 1, 1) := by decide +kernel
theorem dX10_onward_72 : decode cX10_onward 72 = .ok (.iaload, 1) := by decide +kernel
theorem dX10_onward_73 : decode cX10_onward 73 = .ok (.invokevirtual 229, 3) := by decide +kernel
theorem dX10_onward_76 : decode cX10_onward 76 = .ok (.return_, 1) := by decide +kernel
theorem dX10_merge_0 : decode cX10_merge 0 = .ok (.aload_n 0, 1) := by decide +kernel
theorem dX10_merge_1 : decode cX10_merge 1 = .ok (.invokevirtual 209, 3) := by decide +kernel
theorem dX10_merge_4 : decode cX10_merge 4 = .ok (.aload_n 0, 1) := by decide +kernel
theorem dX10_merge_5 : decode cX10_merge 5 = .ok (.invokevirtual 232, 3) := by decide +kernel
theorem dX10_merge_8 : decode cX10_merge 8 = .ok (.iconst 0, 1) := by decide +kernel
theorem dX10_merge_9 : decode cX10_merge 9 = .ok (.istore_n 2, 1) := by decide +kernel
theorem dX10_merge_10 : decode cX10_merge 10 = .ok (.iload_n 2, 1) := by decide +kernel
theorem dX10_merge_11 : decode cX10_merge 11 = .ok (.iload_n 1, 1) := by decide +kernel
theorem dX10_merge_12 : decode cX10_merge 12 = .ok (.if_icmp .ge 60, 3) := by decide +kernel
theorem dX10_merge_15 : decode cX10_merge 15 = .ok (.aload_n 0, 1) := by decide +kernel
theorem dX10_merge_16 : decode cX10_merge 16 = .ok (.getfield 69, 3) := by decide +kernel
theorem dX10_merge_19 : decode cX10_merge 19 = .ok (.iload_n 2, 1) := by decide +kernel
theorem dX10_merge_20 : decode cX10_merge 20 = .ok (.aload_n 0, 1) := by decide +kernel
theorem dX10_merge_21 : decode cX10_merge 21 = .ok (.getfield 24, 3) := by decide +kernel
theorem dX10_merge_24 : decode cX10_merge 24 = .ok (.aload_n 0, 1) := by decide +kernel
theorem dX10_merge_25 : decode cX10_merge 25 = .ok (.getfield 66, 3) := by decide +kernel
theorem dX10_merge_28 : decode cX10_merge 28 = .ok (.iload_n 2, 1) := by decide +kernel
theorem dX10_merge_29 : decode cX10_merge 29 = .ok (.iaload, 1) := by decide +kernel
theorem dX10_merge_30 : decode cX10_merge 30 = .ok (.iaload, 1) := by decide +kernel
theorem dX10_merge_31 : decode cX10_merge 31 = .ok (.iastore, 1) := by decide +kernel
theorem dX10_merge_32 : decode cX10_merge 32 = .ok (.aload_n 0, 1) := by decide +kernel
theorem dX10_merge_33 : decode cX10_merge 33 = .ok (.getfield 72, 3) := by decide +kernel
theorem dX10_merge_36 : decode cX10_merge 36 = .ok (.iload_n 2, 1) := by decide +kernel
theorem dX10_merge_37 : decode cX10_merge 37 = .ok (.iconst 0, 1) := by decide +kernel
theorem dX10_merge_38 : decode cX10_merge 38 = .ok (.iastore, 1) := by decide +kernel
theorem dX10_merge_39 : decode cX10_merge 39 = .ok (.aload_n 0, 1) := by decide +kernel
theorem dX10_merge_40 : decode cX10_merge 40 = .ok (.getfield 75, 3) := by decide +kernel
theorem dX10_merge_43 : decode cX10_merge 43 = .ok (.iload_n 2, 1) := by decide +kernel
theorem dX10_merge_44 : decode cX10_merge 44 = .ok (.aload_n 0, 1) := by decide +kernel
theorem dX10_merge_45 : decode cX10_merge 45 = .ok (.getfield 30, 3) := by decide +kernel
theorem dX10_merge_48 : decode cX10_merge 48 = .ok (.aload_n 0, 1) := by decide +kernel
theorem dX10_merge_49 : decode cX10_merge 49 = .ok (.getfield 66, 3) := by decide +kernel
theorem dX10_merge_52 : decode cX10_merge 52 = .ok (.iload_n 2, 1) := by decide +kernel
theorem dX10_merge_53 : decode cX10_merge 53 = .ok (.iaload, 1) := by decide +kernel
theorem dX10_merge_54 : decode cX10_merge 54 = .ok (.iaload, 1) := by decide +kernel
theorem dX10_merge_55 : decode cX10_merge 55 = .ok (.iastore, 1) := by decide +kernel
theorem dX10_merge_56 : decode cX10_merge 56 = .ok (.aload_n 0, 1) := by decide +kernel
theorem dX10_merge_57 : decode cX10_merge 57 = .ok (.aload_n 0, 1) := by decide +kernel
theorem dX10_merge_58 : decode cX10_merge 58 = .ok (.getfield 69, 3) := by decide +kernel
theorem dX10_merge_61 : decode cX10_merge 61 = .ok (.iload_n 2, 1) := by decide +kernel
theorem dX10_merge_62 : decode cX10_merge 62 = .ok (.iaload, 1) := by decide +kernel
theorem dX10_merge_63 : decode cX10_merge 63 = .ok (.invokevirtual 229, 3) := by decide +kernel
theorem dX10_merge_66 : decode cX10_merge 66 = .ok (.iinc 2 1, 3) := by decide +kernel
theorem dX10_merge_69 : decode cX10_merge 69 = .ok (.goto (-59), 3) := by decide +kernel
theorem dX10_merge_72 : decode cX10_merge 72 = .ok (.aload_n 0, 1) := by decide +kernel
theorem dX10_merge_73 : decode cX10_merge 73 = .ok (.iload_n 1, 1) := by decide +kernel
theorem dX10_merge_74 : decode cX10_merge 74 = .ok (.invokevirtual 285, 3) := by decide +kernel
theorem dX10_merge_77 : decode cX10_merge 77 = .ok (.istore_n 2, 1) := by decide +kernel
theorem dX10_merge_78 : decode cX10_merge 78 = .ok (.iload_n 2, 1) := by decide +kernel
theorem dX10_merge_79 : decode cX10_merge 79 = .ok (.ifCond .lt 26, 3) := by decide +kernel
theorem dX10_merge_82 : decode cX10_merge 82 = .ok (.aload_n 0, 1) := by decide +kernel
theorem dX10_merge_83 : decode cX10_merge 83 = .ok (.aload_n 0, 1) := by decide +kernel
theorem dX10_merge_84 : decode cX10_merge 84 = .ok (.iload_n 2, 1) := by decide +kernel
theorem dX10_merge_85 : decode cX10_merge 85 = .ok (.invokevirtual 282, 3) := by decide +kernel
theorem dX10_merge_88 : decode cX10_merge 88 = .ok (.invokevirtual 257, 3) := by decide +kernel
theorem dX10_merge_91 : decode cX10_merge 91 = .ok (.aload_n 0, 1) := by decide +kernel
theorem dX10_merge_92 : decode cX10_merge 92 = .ok (.iload_n 2, 1) := by decide +kernel
theorem dX10_merge_93 : decode cX10_merge 93 = .ok (.invokevirtual 288, 3) := by decide +kernel
theorem dX10_merge_96 : decode cX10_merge 96 = .ok (.aload_n 0, 1) := by decide +kernel
theorem dX10_merge_97 : decode cX10_merge 97 = .ok (.iload_n 1, 1) := by decide +kernel
theorem dX10_merge_98 : decode cX10_merge 98 = .ok (.invokevirtual 285, 3) := by decide +kernel
theorem dX10_merge_101 : decode cX10_merge 101 = .ok (.istore_n 2, 1) := by decide +kernel
theorem dX10_merge_102 : decode cX10_merge 102 = .ok (.goto (-24), 3) := by decide +kernel
theorem dX10_merge_105 : decode cX10_merge 105 = .ok (.aload_n 0, 1) := by decide +kernel
theorem dX10_merge_106 : decode cX10_merge 106 = .ok (.getfield 134, 3) := by decide +kernel
theorem dX10_merge_109 : decode cX10_merge 109 = .ok (.ifCond .ne 7, 3) := by decide +kernel
theorem dX10_merge_112 : decode cX10_merge 112 = .ok (.aload_n 0, 1) := by decide +kernel
theorem dX10_merge_113 : decode cX10_merge 113 = .ok (.invokevirtual 260, 3) := by decide +kernel
theorem dX10_merge_116 : decode cX10_merge 116 = .ok (.aload_n 0, 1) := by decide +kernel
theorem dX10_merge_117 : decode cX10_merge 117 = .ok (.getfield 134, 3) := by decide +kernel
theorem dX10_merge_120 : decode cX10_merge 120 = .ok (.ifCond .le 19, 3) := by decide +kernel
theorem dX10_merge_123 : decode cX10_merge 123 = .ok (.aload_n 0, 1) := by decide +kernel
theorem dX10_merge_124 : decode cX10_merge 124 = .ok (.invokevirtual 272, 3) := by decide +kernel
theorem dX10_merge_127 : decode cX10_merge 127 = .ok (.aload_n 0, 1) := by decide +kernel
theorem dX10_merge_128 : decode cX10_merge 128 = .ok (.getfield 33, 3) := by decide +kernel
theorem dX10_merge_131 : decode cX10_merge 131 = .ok (.aload_n 0, 1) := by decide +kernel
theorem dX10_merge_132 : decode cX10_merge 132 = .ok (.getfield 161, 3) := by decide +kernel
theorem dX10_merge_135 : decode cX10_merge 135 = .ok (.iconst 0, 1) := by decide +kernel
theorem dX10_merge_136 : decode cX10_merge 136 = .ok (.bastore, 1) := by decide +kernel
theorem dX10_merge_137 : decode cX10_merge 137 = .ok (.iconst (-1), 1) := by decide +kernel
theorem dX10_merge_138 : decode cX10_merge 138 = .ok (.ireturn, 1) := by decide +kernel
theorem dX10_merge_139 : decode cX10_merge 139 = .ok (.iconst 0, 1) := by decide +kernel
theorem dX10_merge_140 : decode cX10_merge 140 = .ok (.istore_n 3, 1) := by decide +kernel
theorem dX10_merge_141 : decode cX10_merge 141 = .ok (.iload_n 3, 1) := by decide +kernel
theorem dX10_merge_142 : decode cX10_merge 142 = .ok (.iload_n 1, 1) := by decide +kernel
theorem dX10_merge_143 : decode cX10_merge 143 = .ok (.if_icmp .ge 19, 3) := by decide +kernel
theorem dX10_merge_146 : decode cX10_merge 146 = .ok (.aload_n 0, 1) := by decide +kernel
theorem dX10_merge_147 : decode cX10_merge 147 = .ok (.aload_n 0, 1) := by decide +kernel
theorem dX10_merge_148 : decode cX10_merge 148 = .ok (.getfield 66, 3) := by decide +kernel
theorem dX10_merge_151 : decode cX10_merge 151 = .ok (.iload_n 3, 1) := by decide +kernel
theorem dX10_merge_152 : decode cX10_merge 152 = .ok (.iaload, 1) := by decide +kernel
theorem dX10_merge_153 : decode cX10_merge 153 = .ok (.invokevirtual 279, 3) := by decide +kernel
theorem dX10_merge_156 : decode cX10_merge 156 = .ok (.iinc 3 1, 3) := by decide +kernel
theorem dX10_merge_159 : decode cX10_merge 159 = .ok (.goto (-18), 3) := by decide +kernel
theorem dX10_merge_162 : decode cX10_merge 162 = .ok (.aload_n 0, 1) := by decide +kernel
theorem dX10_merge_163 : decode cX10_merge 163 = .ok (.getfield 161, 3) := by decide +kernel
theorem dX10_merge_166 : decode cX10_merge 166 = .ok (.ireturn, 1) := by decide +kernel
theorem dX10_mergeRow_0 : decode cX10_mergeRow 0 = .ok (.iconst 0, 1) := by decide +kernel
theorem dX10_mergeRow_1 : decode cX10_mergeRow 1 = .ok (.istore_n 3, 1) := by decide +kernel
theorem dX10_mergeRow_2 : decode cX10_mergeRow 2 = .ok (.iload_n 3, 1) := by decide +kernel
theorem dX10_mergeRow_3 : decode cX10_mergeRow 3 = .ok (.iload_n 2, 1) := by decide +kernel
theorem dX10_mergeRow_4 : decode cX10_mergeRow 4 = .ok (.if_icmp .ge 23, 3) := by decide +kernel
theorem dX10_mergeRow_7 : decode cX10_mergeRow 7 = .ok (.aload_n 0, 1) := by decide +kernel
theorem dX10_mergeRow_8 : decode cX10_mergeRow 8 = .ok (.getfield 66, 3) := by decide +kernel
theorem dX10_mergeRow_11 : decode cX10_mergeRow 11 = .ok (.iload_n 3, 1) := by decide +kernel
theorem dX10_mergeRow_12 : decode cX10_mergeRow 12 = .ok (.aload_n 0, 1) := by decide +kernel
theorem dX10_mergeRow_13 : decode cX10_mergeRow 13 = .ok (.getfield 36, 3) := by decide +kernel
theorem dX10_mergeRow_16 : decode cX10_mergeRow 16 = .ok (.iload_n 1, 1) := by decide +kernel
theorem dX10_mergeRow_17 : decode cX10_mergeRow 17 = .ok (.iload_n 3, 1) := by decide +kernel
theorem dX10_mergeRow_18 : decode cX10_mergeRow 18 = .ok (.iadd, 1) := by decide +kernel
theorem dX10_mergeRow_19 : decode cX10_mergeRow 19 = .ok (.iaload, 1) := by decide +kernel
theorem dX10_mergeRow_20 : decode cX10_mergeRow 20 = .ok (.iastore, 1) := by decide +kernel
theorem dX10_mergeRow_21 : decode cX10_mergeRow 21 = .ok (.iinc 3 1, 3) := by decide +kernel
theorem dX10_mergeRow_24 : decode cX10_mergeRow 24 = .ok (.goto (-22), 3) := by decide +kernel
theorem dX10_mergeRow_27 : decode cX10_mergeRow 27 = .ok (.aload_n 0, 1) := by decide +kernel
theorem dX10_mergeRow_28 : decode cX10_mergeRow 28 = .ok (.iload_n 2, 1) := by decide +kernel
theorem dX10_mergeRow_29 : decode cX10_mergeRow 29 = .ok (.invokevirtual 291, 3) := by decide +kernel
theorem dX10_mergeRow_32 : decode cX10_mergeRow 32 = .ok (.istore_n 3, 1) := by decide +kernel
theorem dX10_mergeRow_33 : decode cX10_mergeRow 33 = .ok (.iload_n 3, 1) := by decide +kernel
theorem dX10_mergeRow_34 : decode cX10_mergeRow 34 = .ok (.iconst (-1), 1) := by decide +kernel
theorem dX10_mergeRow_35 : decode cX10_mergeRow 35 = .ok (.if_icmp .ne 4, 3) := by decide +kernel
theorem dX10_mergeRow_38 : decode cX10_mergeRow 38 = .ok (.return_, 1) := by decide +kernel
theorem dX10_mergeRow_39 : decode cX10_mergeRow 39 = .ok (.aload_n 0, 1) := by decide +kernel
theorem dX10_mergeRow_40 : decode cX10_mergeRow 40 = .ok (.getfield 36, 3) := by decide +kernel
theorem dX10_mergeRow_43 : decode cX10_mergeRow 43 = .ok (.iload_n 1, 1) := by decide +kernel
theorem dX10_mergeRow_44 : decode cX10_mergeRow 44 = .ok (.iload_n 3, 1) := by decide +kernel
theorem dX10_mergeRow_45 : decode cX10_mergeRow 45 = .ok (.iastore, 1) := by decide +kernel
theorem dX10_mergeRow_46 : decode cX10_mergeRow 46 = .ok (.iload_n 1, 1) := by decide +kernel
theorem dX10_mergeRow_47 : decode cX10_mergeRow 47 = .ok (.iload_n 2, 1) := by decide +kernel
theorem dX10_mergeRow_48 : decode cX10_mergeRow 48 = .ok (.iadd, 1) := by decide +kernel
theorem dX10_mergeRow_49 : decode cX10_mergeRow 49 = .ok (.istore 4, 2) := by decide +kernel
theorem dX10_mergeRow_51 : decode cX10_mergeRow 51 = .ok (.iload 4, 2) := by decide +kernel
theorem dX10_mergeRow_53 : decode cX10_mergeRow 53 = .ok (.aload_n 0, 1) := by decide +kernel
theorem dX10_mergeRow_54 : decode cX10_mergeRow 54 = .ok (.getfield 200, 3) := by decide +kernel
theorem dX10_mergeRow_57 : decode cX10_mergeRow 57 = .ok (.if_icmp .ge 27, 3) := by decide +kernel
theorem dX10_mergeRow_60 : decode cX10_mergeRow 60 = .ok (.aload_n 0, 1) := by decide +kernel
theorem dX10_mergeRow_61 : decode cX10_mergeRow 61 = .ok (.getfield 36, 3) := by decide +kernel
theorem dX10_mergeRow_64 : decode cX10_mergeRow 64 = .ok (.iload 4, 2) := by decide +kernel
theorem dX10_mergeRow_66 : decode cX10_mergeRow 66 = .ok (.iload_n 2, 1) := by decide +kernel
theorem dX10_mergeRow_67 : decode cX10_mergeRow 67 = .ok (.isub, 1) := by decide +kernel
theorem dX10_mergeRow_68 : decode cX10_mergeRow 68 = .ok (.iconst 1, 1) := by decide +kernel
theorem dX10_mergeRow_69 : decode cX10_mergeRow 69 = .ok (.iadd, 1) := by decide +kernel
theorem dX10_mergeRow_70 : decode cX10_mergeRow 70 = .ok (.aload_n 0, 1) := by decide +kernel
theorem dX10_mergeRow_71 : decode cX10_mergeRow 71 = .ok (.getfield 36, 3) := by decide +kernel
theorem dX10_mergeRow_74 : decode cX10_mergeRow 74 = .ok (.iload 4, 2) := by decide +kernel
theorem dX10_mergeRow_76 : decode cX10_mergeRow 76 = .ok (.iaload, 1) := by decide +kernel
theorem dX10_mergeRow_77 : decode cX10_mergeRow 77 = .ok (.iastore, 1) := by decide +kernel
theorem dX10_mergeRow_78 : decode cX10_mergeRow 78 = .ok (.iinc 4 1, 3) := by decide +kernel
theorem dX10_mergeRow_81 : decode cX10_mergeRow 81 = .ok (.goto (-30), 3) := by decide +kernel
theorem dX10_mergeRow_84 : decode cX10_mergeRow 84 = .ok (.aload_n 0, 1) := by decide +kernel
theorem dX10_mergeRow_85 : decode cX10_mergeRow 85 = .ok (.dup, 1) := by decide +kernel
theorem dX10_mergeRow_86 : decode cX10_mergeRow 86 = .ok (.getfield 200, 3) := by decide +kernel
theorem dX10_mergeRow_89 : decode cX10_mergeRow 89 = .ok (.iload_n 2, 1) := by decide +kernel
theorem dX10_mergeRow_90 : decode cX10_mergeRow 90 = .ok (.iconst 1, 1) := by decide +kernel
theorem dX10_mergeRow_91 : decode cX10_mergeRow 91 = .ok (.isub, 1) := by decide +kernel
theorem dX10_mergeRow_92 : decode cX10_mergeRow 92 = .ok (.isub, 1) := by decide +kernel
theorem dX10_mergeRow_93 : decode cX10_mergeRow 93 = .ok (.putfield 200, 3) := by decide +kernel
theorem dX10_mergeRow_96 : decode cX10_mergeRow 96 = .ok (.return_, 1) := by decide +kernel
theorem dX10_pass_0 : decode cX10_pass 0 = .ok (.aload_n 0, 1) := by decide +kernel
theorem dX10_pass_1 : decode cX10_pass 1 = .ok (.iload_n 1, 1) := by decide +kernel
theorem dX10_pass_2 : decode cX10_pass 2 = .ok (.iconst 2, 1) := by decide +kernel
theorem dX10_pass_3 : decode cX10_pass 3 = .ok (.bipush 8, 2) := by decide +kernel
theorem dX10_pass_5 : decode cX10_pass 5 = .ok (.invokestatic 193, 3) := by decide +kernel
theorem dX10_pass_8 : decode cX10_pass 8 = .ok (.ifCond .ne 7, 3) := by decide +kernel
theorem dX10_pass_11 : decode cX10_pass 11 = .ok (.iconst 1, 1) := by decide +kernel
theorem dX10_pass_12 : decode cX10_pass 12 = .ok (.goto 15, 3) := by decide +kernel
theorem dX10_pass_15 : decode cX10_pass 15 = .ok (.aload_n 0, 1) := by decide +kernel
theorem dX10_pass_16 : decode cX10_pass 16 = .ok (.getfield 197, 3) := by decide +kernel
theorem dX10_pass_19 : decode cX10_pass 19 = .ok (.ifCond .eq 7, 3) := by decide +kernel
theorem dX10_pass_22 : decode cX10_pass 22 = .ok (.iconst 2, 1) := by decide +kernel
theorem dX10_pass_23 : decode cX10_pass 23 = .ok (.goto 4, 3) := by decide +kernel
theorem dX10_pass_26 : decode cX10_pass 26 = .ok (.iconst 0, 1) := by decide +kernel
theorem dX10_pass_27 : decode cX10_pass 27 = .ok (.putfield 125, 3) := by decide +kernel
theorem dX10_pass_30 : decode cX10_pass 30 = .ok (.aload_n 0, 1) := by decide +kernel
theorem dX10_pass_31 : decode cX10_pass 31 = .ok (.getfield 125, 3) := by decide +kernel
theorem dX10_pass_34 : decode cX10_pass 34 = .ok (.ifCond .le 5, 3) := by decide +kernel
theorem dX10_pass_37 : decode cX10_pass 37 = .ok (.iconst 0, 1) := by decide +kernel
theorem dX10_pass_38 : decode cX10_pass 38 = .ok (.ireturn, 1) := by decide +kernel
theorem dX10_pass_39 : decode cX10_pass 39 = .ok (.aload_n 0, 1) := by decide +kernel
theorem dX10_pass_40 : decode cX10_pass 40 = .ok (.getfield 200, 3) := by decide +kernel
theorem dX10_pass_43 : decode cX10_pass 43 = .ok (.istore_n 2, 1) := by decide +kernel
theorem dX10_pass_44 : decode cX10_pass 44 = .ok (.iconst 0, 1) := by decide +kernel
theorem dX10_pass_45 : decode cX10_pass 45 = .ok (.istore_n 3, 1) := by decide +kernel
theorem dX10_pass_46 : decode cX10_pass 46 = .ok (.aload_n 0, 1) := by decide +kernel
theorem dX10_pass_47 : decode cX10_pass 47 = .ok (.iconst 0, 1) := by decide +kernel
theorem dX10_pass_48 : decode cX10_pass 48 = .ok (.putfield 134, 3) := by decide +kernel
theorem dX10_pass_51 : decode cX10_pass 51 = .ok (.iload_n 2, 1) := by decide +kernel
theorem dX10_pass_52 : decode cX10_pass 52 = .ok (.ifCond .le 46, 3) := by decide +kernel
theorem dX10_pass_55 : decode cX10_pass 55 = .ok (.aload_n 0, 1) := by decide +kernel
theorem dX10_pass_56 : decode cX10_pass 56 = .ok (.getfield 134, 3) := by decide +kernel
theorem dX10_pass_59 : decode cX10_pass 59 = .ok (.ifCond .ne 39, 3) := by decide +kernel
theorem dX10_pass_62 : decode cX10_pass 62 = .ok (.iload_n 2, 1) := by decide +kernel
theorem dX10_pass_63 : decode cX10_pass 63 = .ok (.iload_n 1, 1) := by decide +kernel
theorem dX10_pass_64 : decode cX10_pass 64 = .ok (.if_icmp .ge 7, 3) := by decide +kernel
theorem dX10_pass_67 : decode cX10_pass 67 = .ok (.iload_n 2, 1) := by decide +kernel
theorem dX10_pass_68 : decode cX10_pass 68 = .ok (.goto 4, 3) := by decide +kernel
theorem dX10_pass_71 : decode cX10_pass 71 = .ok (.iload_n 1, 1) := by decide +kernel
theorem dX10_pass_72 : decode cX10_pass 72 = .ok (.istore 4, 2) := by decide +kernel
theorem dX10_pass_74 : decode cX10_pass 74 = .ok (.iload 4, 2) := by decide +kernel
theorem dX10_pass_76 : decode cX10_pass 76 = .ok (.iconst 1, 1) := by decide +kernel
theorem dX10_pass_77 : decode cX10_pass 77 = .ok (.if_icmp .le 10, 3) := by decide +kernel
theorem dX10_pass_80 : decode cX10_pass 80 = .ok (.aload_n 0, 1) := by decide +kernel
theorem dX10_pass_81 : decode cX10_pass 81 = .ok (.iload_n 3, 1) := by decide +kernel
theorem dX10_pass_82 : decode cX10_pass 82 = .ok (.iload 4, 2) := by decide +kernel
theorem dX10_pass_84 : decode cX10_pass 84 = .ok (.invokevirtual 294, 3) := by decide +kernel
theorem dX10_pass_87 : decode cX10_pass 87 = .ok (.iload_n 2, 1) := by decide +kernel
theorem dX10_pass_88 : decode cX10_pass 88 = .ok (.iload 4, 2) := by decide +kernel
theorem dX10_pass_90 : decode cX10_pass 90 = .ok (.isub, 1) := by decide +kernel
theorem dX10_pass_91 : decode cX10_pass 91 = .ok (.istore_n 2, 1) := by decide +kernel
theorem dX10_pass_92 : decode cX10_pass 92 = .ok (.iinc 3 1, 3) := by decide +kernel
theorem dX10_pass_95 : decode cX10_pass 95 = .ok (.goto (-44), 3) := by decide +kernel
theorem dX10_pass_98 : decode cX10_pass 98 = .ok (.aload_n 0, 1) := by decide +kernel
theorem dX10_pass_99 : decode cX10_pass 99 = .ok (.iconst 3, 1) := by decide +kernel
theorem dX10_pass_100 : decode cX10_pass 100 = .ok (.invokevirtual 275, 3) := by decide +kernel
theorem dX10_pass_103 : decode cX10_pass 103 = .ok (.ireturn, 1) := by decide +kernel
theorem dX10_choose_0 : decode cX10_choose 0 = .ok (.iconst 0, 1) := by decide +kernel
theorem dX10_choose_1 : decode cX10_choose 1 = .ok (.istore_n 2, 1) := by decide +kernel
theorem dX10_choose_2 : decode cX10_choose 2 = .ok (.iload_n 2, 1) := by decide +kernel
theorem dX10_choose_3 : decode cX10_choose 3 = .ok (.aload_n 0, 1) := by decide +kernel
theorem dX10_choose_4 : decode cX10_choose 4 = .ok (.getfield 200, 3) := by decide +kernel
theorem dX10_choose_7 : decode cX10_choose 7 = .ok (.if_icmp .ge 16, 3) := by decide +kernel
theorem dX10_choose_10 : decode cX10_choose 10 = .ok (.aload_n 0, 1) := by decide +kernel
theorem dX10_choose_11 : decode cX10_choose 11 = .ok (.getfield 78, 3) := by decide +kernel
theorem dX10_choose_14 : decode cX10_choose 14 = .ok (.iload_n 2, 1) := by decide +kernel
theorem dX10_choose_15 : decode cX10_choose 15 = .ok (.iconst 0, 1) := by decide +kernel
theorem dX10_choose_16 : decode cX10_choose 16 = .ok (.bastore, 1) := by decide +kernel
theorem dX10_choose_17 : decode cX10_choose 17 = .ok (.iinc 2 1, 3) := by decide +kernel
theorem dX10_choose_20 : decode cX10_choose 20 = .ok (.goto (-18), 3) := by decide +kernel
theorem dX10_choose_23 : decode cX10_choose 23 = .ok (.iconst 0, 1) := by decide +kernel
theorem dX10_choose_24 : decode cX10_choose 24 = .ok (.istore_n 2, 1) := by decide +kernel
theorem dX10_choose_25 : decode cX10_choose 25 = .ok (.iload_n 2, 1) := by decide +kernel
theorem dX10_choose_26 : decode cX10_choose 26 = .ok (.iload_n 1, 1) := by decide +kernel
theorem dX10_choose_27 : decode cX10_choose 27 = .ok (.if_icmp .ge 79, 3) := by decide +kernel
theorem dX10_choose_30 : decode cX10_choose 30 = .ok (.iconst (-1), 1) := by decide +kernel
theorem dX10_choose_31 : decode cX10_choose 31 = .ok (.istore_n 3, 1) := by decide +kernel
theorem dX10_choose_32 : decode cX10_choose 32 = .ok (.iconst 0, 1) := by decide +kernel
theorem dX10_choose_33 : decode cX10_choose 33 = .ok (.istore 4, 2) := by decide +kernel
theorem dX10_choose_35 : decode cX10_choose 35 = .ok (.iload 4, 2) := by decide +kernel
theorem dX10_choose_37 : decode cX10_choose 37 = .ok (.aload_n 0, 1) := by decide +kernel
theorem dX10_choose_38 : decode cX10_choose 38 = .ok (.getfield 200, 3) := by decide +kernel
theorem dX10_choose_41 : decode cX10_choose 41 = .ok (.if_icmp .ge 52, 3) := by decide +kernel
theorem dX10_choose_44 : decode cX10_choose 44 = .ok (.aload_n 0, 1) := by decide +kernel
theorem dX10_choose_45 : decode cX10_choose 45 = .ok (.getfield 78, 3) := by decide +kernel
theorem dX10_choose_48 : decode cX10_choose 48 = .ok (.iload 4, 2) := by decide +kernel
theorem dX10_choose_50 : decode cX10_choose 50 = .ok (.baload, 1) := by decide +kernel
theorem dX10_choose_51 : decode cX10_choose 51 = .ok (.ifCond .ne 36, 3) := by decide +kernel
theorem dX10_choose_54 : decode cX10_choose 54 = .ok (.iload_n 3, 1) := by decide +kernel
theorem dX10_choose_55 : decode cX10_choose 55 = .ok (.ifCond .lt 29, 3) := by decide +kernel
theorem dX10_choose_58 : decode cX10_choose 58 = .ok (.aload_n 0, 1) := by decide +kernel
theorem dX10_choose_59 : decode cX10_choose 59 = .ok (.getfield 30, 3) := by decide +kernel
theorem dX10_choose_62 : decode cX10_choose 62 = .ok (.aload_n 0, 1) := by decide +kernel
theorem dX10_choose_63 : decode cX10_choose 63 = .ok (.getfield 36, 3) := by decide +kernel
theorem dX10_choose_66 : decode cX10_choose 66 = .ok (.iload 4, 2) := by decide +kernel
theorem dX10_choose_68 : decode cX10_choose 68 = .ok (.iaload, 1) := by decide +kernel
theorem dX10_choose_69 : decode cX10_choose 69 = .ok (.iaload, 1) := by decide +kernel
theorem dX10_choose_70 : decode cX10_choose 70 = .ok (.aload_n 0, 1) := by decide +kernel
theorem dX10_choose_71 : decode cX10_choose 71 = .ok (.getfield 30, 3) := by decide +kernel
theorem dX10_choose_74 : decode cX10_choose 74 = .ok (.aload_n 0, 1) := by decide +kernel
theorem dX10_choose_75 : decode cX10_choose 75 = .ok (.getfield 36, 3) := by decide +kernel
theorem dX10_choose_78 : decode cX10_choose 78 = .ok (.iload_n 3, 1) := by decide +kernel
theorem dX10_choose_79 : decode cX10_choose 79 = .ok (.iaload, 1) := by decide +kernel
theorem dX10_choose_80 : decode cX10_choose 80 = .ok (.iaload, 1) := by decide +kernel
theorem dX10_choose_81 : decode cX10_choose 81 = .ok (.if_icmp .ge 6, 3) := by decide +kernel
theorem dX10_choose_84 : decode cX10_choose 84 = .ok (.iload 4, 2) := by decide +kernel
theorem dX10_choose_86 : decode cX10_choose 86 = .ok (.istore_n 3, 1) := by decide +kernel
theorem dX10_choose_87 : decode cX10_choose 87 = .ok (.iinc 4 1, 3) := by decide +kernel
theorem dX10_choose_90 : decode cX10_choose 90 = .ok (.goto (-55), 3) := by decide +kernel
theorem dX10_choose_93 : decode cX10_choose 93 = .ok (.aload_n 0, 1) := by decide +kernel
theorem dX10_choose_94 : decode cX10_choose 94 = .ok (.getfield 78, 3) := by decide +kernel
theorem dX10_choose_97 : decode cX10_choose 97 = .ok (.iload_n 3, 1) := by decide +kernel
theorem dX10_choose_98 : decode cX10_choose 98 = .ok (.iconst 1, 1) := by decide +kernel
theorem dX10_choose_99 : decode cX10_choose 99 = .ok (.bastore, 1) := by decide +kernel
theorem dX10_choose_100 : decode cX10_choose 100 = .ok (.iinc 2 1, 3) := by decide +kernel
theorem dX10_choose_103 : decode cX10_choose 103 = .ok (.goto (-78), 3) := by decide +kernel
theorem dX10_choose_106 : decode cX10_choose 106 = .ok (.return_, 1) := by decide +kernel
theorem dX10_mergeChosen_0 : decode cX10_mergeChosen 0 = .ok (.aload_n 0, 1) := by decide +kernel
theorem dX10_mergeChosen_1 : decode cX10_mergeChosen 1 = .ok (.iload_n 1, 1) := by decide +kernel
theorem dX10_mergeChosen_2 : decode cX10_mergeChosen 2 = .ok (.invokevirtual 298, 3) := by decide +kernel
theorem dX10_mergeChosen_5 : decode cX10_mergeChosen 5 = .ok (.iconst 0, 1) := by decide +kernel
theorem dX10_mergeChosen_6 : decode cX10_mergeChosen 6 = .ok (.istore_n 2, 1) := by decide +kernel
theorem dX10_mergeChosen_7 : decode cX10_mergeChosen 7 = .ok (.iconst 0, 1) := by decide +kernel
theorem dX10_mergeChosen_8 : decode cX10_mergeChosen 8 = .ok (.istore_n 3, 1) := by decide +kernel
theorem dX10_mergeChosen_9 : decode cX10_mergeChosen 9 = .ok (.iload_n 3, 1) := by decide +kernel
theorem dX10_mergeChosen_10 : decode cX10_mergeChosen 10 = .ok (.aload_n 0, 1) := by decide +kernel
theorem dX10_mergeChosen_11 : decode cX10_mergeChosen 11 = .ok (.getfield 200, 3) := by decide +kernel
theorem dX10_mergeChosen_14 : decode cX10_mergeChosen 14 = .ok (.if_icmp .ge 33, 3) := by decide +kernel
theorem dX10_mergeChosen_17 : decode cX10_mergeChosen 17 = .ok (.aload_n 0, 1) := by decide +kernel
theorem dX10_mergeChosen_18 : decode cX10_mergeChosen 18 = .ok (.getfield 78, 3) := by decide +kernel
theorem dX10_mergeChosen_21 : decode cX10_mergeChosen 21 = .ok (.iload_n 3, 1) := by decide +kernel
theorem dX10_mergeChosen_22 : decode cX10_mergeChosen 22 = .ok (.baload, 1) := by decide +kernel
theorem dX10_mergeChosen_23 : decode cX10_mergeChosen 23 = .ok (.ifCond .eq 18, 3) := by decide +kernel
theorem dX10_mergeChosen_26 : decode cX10_mergeChosen 26 = .ok (.aload_n 0, 1) := by decide +kernel
theorem dX10_mergeChosen_27 : decode cX10_mergeChosen 27 = .ok (.getfield 66, 3) := by decide +kernel
theorem dX10_mergeChosen_30 : decode cX10_mergeChosen 30 = .ok (.iload_n 2, 1) := by decide +kernel
theorem dX10_mergeChosen_31 : decode cX10_mergeChosen 31 = .ok (.aload_n 0, 1) := by decide +kernel
theorem dX10_mergeChosen_32 : decode cX10_mergeChosen 32 = .ok (.getfield 36, 3) := by decide +kernel
theorem dX10_mergeChosen_35 : decode cX10_mergeChosen 35 = .ok (.iload_n 3, 1) := by decide +kernel
theorem dX10_mergeChosen_36 : decode cX10_mergeChosen 36 = .ok (.iaload, 1) := by decide +kernel
theorem dX10_mergeChosen_37 : decode cX10_mergeChosen 37 = .ok (.iastore, 1) := by decide +kernel
theorem dX10_mergeChosen_38 : decode cX10_mergeChosen 38 = .ok (.iinc 2 1, 3) := by decide +kernel
theorem dX10_mergeChosen_41 : decode cX10_mergeChosen 41 = .ok (.iinc 3 1, 3) := by decide +kernel
theorem dX10_mergeChosen_44 : decode cX10_mergeChosen 44 = .ok (.goto (-35), 3) := by decide +kernel
theorem dX10_mergeChosen_47 : decode cX10_mergeChosen 47 = .ok (.aload_n 0, 1) := by decide +kernel
theorem dX10_mergeChosen_48 : decode cX10_mergeChosen 48 = .ok (.iload_n 1, 1) := by decide +kernel
theorem dX10_mergeChosen_49 : decode cX10_mergeChosen 49 = .ok (.invokevirtual 291, 3) := by decide +kernel
theorem dX10_mergeChosen_52 : decode cX10_mergeChosen 52 = .ok (.istore_n 3, 1) := by decide +kernel
theorem dX10_mergeChosen_53 : decode cX10_mergeChosen 53 = .ok (.iload_n 3, 1) := by decide +kernel
theorem dX10_mergeChosen_54 : decode cX10_mergeChosen 54 = .ok (.iconst (-1), 1) := by decide +kernel
theorem dX10_mergeChosen_55 : decode cX10_mergeChosen 55 = .ok (.if_icmp .ne 4, 3) := by decide +kernel
theorem dX10_mergeChosen_58 : decode cX10_mergeChosen 58 = .ok (.return_, 1) := by decide +kernel
theorem dX10_mergeChosen_59 : decode cX10_mergeChosen 59 = .ok (.iconst 0, 1) := by decide +kernel
theorem dX10_mergeChosen_60 : decode cX10_mergeChosen 60 = .ok (.istore 4, 2) := by decide +kernel
theorem dX10_mergeChosen_62 : decode cX10_mergeChosen 62 = .ok (.iconst 0, 1) := by decide +kernel
theorem dX10_mergeChosen_63 : decode cX10_mergeChosen 63 = .ok (.istore 5, 2) := by decide +kernel
theorem dX10_mergeChosen_65 : decode cX10_mergeChosen 65 = .ok (.iload 5, 2) := by decide +kernel
theorem dX10_mergeChosen_67 : decode cX10_mergeChosen 67 = .ok (.aload_n 0, 1) := by decide +kernel
theorem dX10_mergeChosen_68 : decode cX10_mergeChosen 68 = .ok (.getfield 200, 3) := by decide +kernel
theorem dX10_mergeChosen_71 : decode cX10_mergeChosen 71 = .ok (.if_icmp .ge 36, 3) := by decide +kernel
theorem dX10_mergeChosen_74 : decode cX10_mergeChosen 74 = .ok (.aload_n 0, 1) := by decide +kernel
theorem dX10_mergeChosen_75 : decode cX10_mergeChosen 75 = .ok (.getfield 78, 3) := by decide +kernel
theorem dX10_mergeChosen_78 : decode cX10_mergeChosen 78 = .ok (.iload 5, 2) := by decide +kernel
theorem dX10_mergeChosen_80 : decode cX10_mergeChosen 80 = .ok (.baload, 1) := by decide +kernel
theorem dX10_mergeChosen_81 : decode cX10_mergeChosen 81 = .ok (.ifCond .ne 20, 3) := by decide +kernel
theorem dX10_mergeChosen_84 : decode cX10_mergeChosen 84 = .ok (.aload_n 0, 1) := by decide +kernel
theorem dX10_mergeChosen_85 : decode cX10_mergeChosen 85 = .ok (.getfield 36, 3) := by decide +kernel
theorem dX10_mergeChosen_88 : decode cX10_mergeChosen 88 = .ok (.iload 4, 2) := by decide +kernel
theorem dX10_mergeChosen_90 : decode cX10_mergeChosen 90 = .ok (.aload_n 0, 1) := by decide +kernel
theorem dX10_mergeChosen_91 : decode cX10_mergeChosen 91 = .ok (.getfield 36, 3) := by decide +kernel
theorem dX10_mergeChosen_94 : decode cX10_mergeChosen 94 = .ok (.iload 5, 2) := by decide +kernel
theorem dX10_mergeChosen_96 : decode cX10_mergeChosen 96 = .ok (.iaload, 1) := by decide +kernel
theorem dX10_mergeChosen_97 : decode cX10_mergeChosen 97 = .ok (.iastore, 1) := by decide +kernel
theorem dX10_mergeChosen_98 : decode cX10_mergeChosen 98 = .ok (.iinc 4 1, 3) := by decide +kernel
theorem dX10_mergeChosen_101 : decode cX10_mergeChosen 101 = .ok (.iinc 5 1, 3) := by decide +kernel
theorem dX10_mergeChosen_104 : decode cX10_mergeChosen 104 = .ok (.goto (-39), 3) := by decide +kernel
theorem dX10_mergeChosen_107 : decode cX10_mergeChosen 107 = .ok (.aload_n 0, 1) := by decide +kernel
theorem dX10_mergeChosen_108 : decode cX10_mergeChosen 108 = .ok (.getfield 36, 3) := by decide +kernel
theorem dX10_mergeChosen_111 : decode cX10_mergeChosen 111 = .ok (.iload 4, 2) := by decide +kernel
theorem dX10_mergeChosen_113 : decode cX10_mergeChosen 113 = .ok (.iload_n 3, 1) := by decide +kernel
theorem dX10_mergeChosen_114 : decode cX10_mergeChosen 114 = .ok (.iastore, 1) := by decide +kernel
theorem dX10_mergeChosen_115 : decode cX10_mergeChosen 115 = .ok (.aload_n 0, 1) := by decide +kernel
theorem dX10_mergeChosen_116 : decode cX10_mergeChosen 116 = .ok (.iload 4, 2) := by decide +kernel
theorem dX10_mergeChosen_118 : decode cX10_mergeChosen 118 = .ok (.iconst 1, 1) := by decide +kernel
theorem dX10_mergeChosen_119 : decode cX10_mergeChosen 119 = .ok (.iadd, 1) := by decide +kernel
theorem dX10_mergeChosen_120 : decode cX10_mergeChosen 120 = .ok (.putfield 200, 3) := by decide +kernel
theorem dX10_mergeChosen_123 : decode cX10_mergeChosen 123 = .ok (.return_, 1) := by decide +kernel
theorem dX10_best_0 : decode cX10_best 0 = .ok (.aload_n 0, 1) := by decide +kernel
theorem dX10_best_1 : decode cX10_best 1 = .ok (.iload_n 1, 1) := by decide +kernel
theorem dX10_best_2 : decode cX10_best 2 = .ok (.iconst 2, 1) := by decide +kernel
theorem dX10_best_3 : decode cX10_best 3 = .ok (.bipush 8, 2) := by decide +kernel
theorem dX10_best_5 : decode cX10_best 5 = .ok (.invokestatic 193, 3) := by decide +kernel
theorem dX10_best_8 : decode cX10_best 8 = .ok (.ifCond .ne 7, 3) := by decide +kernel
theorem dX10_best_11 : decode cX10_best 11 = .ok (.iconst 1, 1) := by decide +kernel
theorem dX10_best_12 : decode cX10_best 12 = .ok (.goto 15, 3) := by decide +kernel
theorem dX10_best_15 : decode cX10_best 15 = .ok (.aload_n 0, 1) := by decide +kernel
theorem dX10_best_16 : decode cX10_best 16 = .ok (.getfield 197, 3) := by decide +kernel
theorem dX10_best_19 : decode cX10_best 19 = .ok (.ifCond .eq 7, 3) := by decide +kernel
theorem dX10_best_22 : decode cX10_best 22 = .ok (.iconst 2, 1) := by decide +kernel
theorem dX10_best_23 : decode cX10_best 23 = .ok (.goto 4, 3) := by decide +kernel
theorem dX10_best_26 : decode cX10_best 26 = .ok (.iconst 0, 1) := by decide +kernel
theorem dX10_best_27 : decode cX10_best 27 = .ok (.putfield 125, 3) := by decide +kernel
theorem dX10_best_30 : decode cX10_best 30 = .ok (.aload_n 0, 1) := by decide +kernel
theorem dX10_best_31 : decode cX10_best 31 = .ok (.getfield 125, 3) := by decide +kernel
theorem dX10_best_34 : decode cX10_best 34 = .ok (.ifCond .le 5, 3) := by decide +kernel
theorem dX10_best_37 : decode cX10_best 37 = .ok (.iconst 0, 1) := by decide +kernel
theorem dX10_best_38 : decode cX10_best 38 = .ok (.ireturn, 1) := by decide +kernel
theorem dX10_best_39 : decode cX10_best 39 = .ok (.aload_n 0, 1) := by decide +kernel
theorem dX10_best_40 : decode cX10_best 40 = .ok (.iconst 0, 1) := by decide +kernel
theorem dX10_best_41 : decode cX10_best 41 = .ok (.putfield 134, 3) := by decide +kernel
theorem dX10_best_44 : decode cX10_best 44 = .ok (.aload_n 0, 1) := by decide +kernel
theorem dX10_best_45 : decode cX10_best 45 = .ok (.getfield 200, 3) := by decide +kernel
theorem dX10_best_48 : decode cX10_best 48 = .ok (.iconst 2, 1) := by decide +kernel
theorem dX10_best_49 : decode cX10_best 49 = .ok (.if_icmp .ge 7, 3) := by decide +kernel
theorem dX10_best_52 : decode cX10_best 52 = .ok (.iconst 0, 1) := by decide +kernel
theorem dX10_best_53 : decode cX10_best 53 = .ok (.goto 15, 3) := by decide +kernel
theorem dX10_best_56 : decode cX10_best 56 = .ok (.iconst 2, 1) := by decide +kernel
theorem dX10_best_57 : decode cX10_best 57 = .ok (.aload_n 0, 1) := by decide +kernel
theorem dX10_best_58 : decode cX10_best 58 = .ok (.getfield 200, 3) := by decide +kernel
theorem dX10_best_61 : decode cX10_best 61 = .ok (.iconst 2, 1) := by decide +kernel
theorem dX10_best_62 : decode cX10_best 62 = .ok (.isub, 1) := by decide +kernel
theorem dX10_best_63 : decode cX10_best 63 = .ok (.iload_n 1, 1) := by decide +kernel
theorem dX10_best_64 : decode cX10_best 64 = .ok (.iconst 1, 1) := by decide +kernel
theorem dX10_best_65 : decode cX10_best 65 = .ok (.isub, 1) := by decide +kernel
theorem dX10_best_66 : decode cX10_best 66 = .ok (.irem, 1) := by decide +kernel
theorem dX10_best_67 : decode cX10_best 67 = .ok (.iadd, 1) := by decide +kernel
theorem dX10_best_68 : decode cX10_best 68 = .ok (.istore_n 2, 1) := by decide +kernel
theorem dX10_best_69 : decode cX10_best 69 = .ok (.aload_n 0, 1) := by decide +kernel
theorem dX10_best_70 : decode cX10_best 70 = .ok (.getfield 200, 3) := by decide +kernel
theorem dX10_best_73 : decode cX10_best 73 = .ok (.iconst 1, 1) := by decide +kernel
theorem dX10_best_74 : decode cX10_best 74 = .ok (.if_icmp .le 20, 3) := by decide +kernel
theorem dX10_best_77 : decode cX10_best 77 = .ok (.aload_n 0, 1) := by decide +kernel
theorem dX10_best_78 : decode cX10_best 78 = .ok (.getfield 134, 3) := by decide +kernel
theorem dX10_best_81 : decode cX10_best 81 = .ok (.ifCond .ne 13, 3) := by decide +kernel
theorem dX10_best_84 : decode cX10_best 84 = .ok (.aload_n 0, 1) := by decide +kernel
theorem dX10_best_85 : decode cX10_best 85 = .ok (.iload_n 2, 1) := by decide +kernel
theorem dX10_best_86 : decode cX10_best 86 = .ok (.invokevirtual 301, 3) := by decide +kernel
theorem dX10_best_89 : decode cX10_best 89 = .ok (.iload_n 1, 1) := by decide +kernel
theorem dX10_best_90 : decode cX10_best 90 = .ok (.istore_n 2, 1) := by decide +kernel
theorem dX10_best_91 : decode cX10_best 91 = .ok (.goto (-22), 3) := by decide +kernel
theorem dX10_best_94 : decode cX10_best 94 = .ok (.aload_n 0, 1) := by decide +kernel
theorem dX10_best_95 : decode cX10_best 95 = .ok (.iconst 3, 1) := by decide +kernel
theorem dX10_best_96 : decode cX10_best 96 = .ok (.invokevirtual 275, 3) := by decide +kernel
theorem dX10_best_99 : decode cX10_best 99 = .ok (.ireturn, 1) := by decide +kernel
theorem dX10_append_0 : decode cX10_append 0 = .ok (.aload_n 0, 1) := by decide +kernel
theorem dX10_append_1 : decode cX10_append 1 = .ok (.getfield 81, 3) := by decide +kernel
theorem dX10_append_4 : decode cX10_append 4 = .ok (.sipush 208, 3) := by decide +kernel
theorem dX10_append_7 : decode cX10_append 7 = .ok (.iload_n 1, 1) := by decide +kernel
theorem dX10_append_8 : decode cX10_append 8 = .ok (.imul, 1) := by decide +kernel
theorem dX10_append_9 : decode cX10_append 9 = .ok (.aload_n 0, 1) := by decide +kernel
theorem dX10_append_10 : decode cX10_append 10 = .ok (.getfield 87, 3) := by decide +kernel
theorem dX10_append_13 : decode cX10_append 13 = .ok (.iload_n 1, 1) := by decide +kernel
theorem dX10_append_14 : decode cX10_append 14 = .ok (.iaload, 1) := by decide +kernel
theorem dX10_append_15 : decode cX10_append 15 = .ok (.iadd, 1) := by decide +kernel
theorem dX10_append_16 : decode cX10_append 16 = .ok (.iload_n 2, 1) := by decide +kernel
theorem dX10_append_17 : decode cX10_append 17 = .ok (.iastore, 1) := by decide +kernel
theorem dX10_append_18 : decode cX10_append 18 = .ok (.aload_n 0, 1) := by decide +kernel
theorem dX10_append_19 : decode cX10_append 19 = .ok (.getfield 87, 3) := by decide +kernel
theorem dX10_append_22 : decode cX10_append 22 = .ok (.iload_n 1, 1) := by decide +kernel
theorem dX10_append_23 : decode cX10_append 23 = .ok (.dup2, 1) := by decide +kernel
theorem dX10_append_24 : decode cX10_append 24 = .ok (.iaload, 1) := by decide +kernel
theorem dX10_append_25 : decode cX10_append 25 = .ok (.iconst 1, 1) := by decide +kernel
theorem dX10_append_26 : decode cX10_append 26 = .ok (.iadd, 1) := by decide +kernel
theorem dX10_append_27 : decode cX10_append 27 = .ok (.iastore, 1) := by decide +kernel
theorem dX10_append_28 : decode cX10_append 28 = .ok (.return_, 1) := by decide +kernel
theorem dX10_raise_0 : decode cX10_raise 0 = .ok (.aload_n 0, 1) := by decide +kernel
theorem dX10_raise_1 : decode cX10_raise 1 = .ok (.dup, 1) := by decide +kernel
theorem dX10_raise_2 : decode cX10_raise 2 = .ok (.getfield 304, 3) := by decide +kernel
theorem dX10_raise_5 : decode cX10_raise 5 = .ok (.iconst 1, 1) := by decide +kernel
theorem dX10_raise_6 : decode cX10_raise 6 = .ok (.iadd, 1) := by decide +kernel
theorem dX10_raise_7 : decode cX10_raise 7 = .ok (.putfield 304, 3) := by decide +kernel
theorem dX10_raise_10 : decode cX10_raise 10 = .ok (.aload_n 0, 1) := by decide +kernel
theorem dX10_raise_11 : decode cX10_raise 11 = .ok (.getfield 96, 3) := by decide +kernel
theorem dX10_raise_14 : decode cX10_raise 14 = .ok (.iconst 1, 1) := by decide +kernel
theorem dX10_raise_15 : decode cX10_raise 15 = .ok (.iaload, 1) := by decide +kernel
theorem dX10_raise_16 : decode cX10_raise 16 = .ok (.istore_n 2, 1) := by decide +kernel
theorem dX10_raise_17 : decode cX10_raise 17 = .ok (.iconst 1, 1) := by decide +kernel
theorem dX10_raise_18 : decode cX10_raise 18 = .ok (.istore_n 3, 1) := by decide +kernel
theorem dX10_raise_19 : decode cX10_raise 19 = .ok (.iload_n 3, 1) := by decide +kernel
theorem dX10_raise_20 : decode cX10_raise 20 = .ok (.iload_n 1, 1) := by decide +kernel
theorem dX10_raise_21 : decode cX10_raise 21 = .ok (.if_icmp .gt 48, 3) := by decide +kernel
theorem dX10_raise_24 : decode cX10_raise 24 = .ok (.aload_n 0, 1) := by decide +kernel
theorem dX10_raise_25 : decode cX10_raise 25 = .ok (.getfield 90, 3) := by decide +kernel
theorem dX10_raise_28 : decode cX10_raise 28 = .ok (.iload_n 3, 1) := by decide +kernel
theorem dX10_raise_29 : decode cX10_raise 29 = .ok (.iload_n 2, 1) := by decide +kernel
theorem dX10_raise_30 : decode cX10_raise 30 = .ok (.aload_n 0, 1) := by decide +kernel
theorem dX10_raise_31 : decode cX10_raise 31 = .ok (.getfield 96, 3) := by decide +kernel
theorem dX10_raise_34 : decode cX10_raise 34 = .ok (.iload_n 3, 1) := by decide +kernel
theorem dX10_raise_35 : decode cX10_raise 35 = .ok (.iconst 1, 1) := by decide +kernel
theorem dX10_raise_36 : decode cX10_raise 36 = .ok (.iadd, 1) := by decide +kernel
theorem dX10_raise_37 : decode cX10_raise 37 = .ok (.iaload, 1) := by decide +kernel
theorem dX10_raise_38 : decode cX10_raise 38 = .ok (.iadd, 1) := by decide +kernel
theorem dX10_raise_39 : decode cX10_raise 39 = .ok (.aload_n 0, 1) := by decide +kernel
theorem dX10_raise_40 : decode cX10_raise 40 = .ok (.getfield 96, 3) := by decide +kernel
theorem dX10_raise_43 : decode cX10_raise 43 = .ok (.iload_n 3, 1) := by decide +kernel
theorem dX10_raise_44 : decode cX10_raise 44 = .ok (.iaload, 1) := by decide +kernel
theorem dX10_raise_45 : decode cX10_raise 45 = .ok (.isub, 1) := by decide +kernel
theorem dX10_raise_46 : decode cX10_raise 46 = .ok (.iastore, 1) := by decide +kernel
theorem dX10_raise_47 : decode cX10_raise 47 = .ok (.aload_n 0, 1) := by decide +kernel
theorem dX10_raise_48 : decode cX10_raise 48 = .ok (.getfield 96, 3) := by decide +kernel
theorem dX10_raise_51 : decode cX10_raise 51 = .ok (.iload_n 3, 1) := by decide +kernel
theorem dX10_raise_52 : decode cX10_raise 52 = .ok (.iload_n 2, 1) := by decide +kernel
theorem dX10_raise_53 : decode cX10_raise 53 = .ok (.aload_n 0, 1) := by decide +kernel
theorem dX10_raise_54 : decode cX10_raise 54 = .ok (.getfield 96, 3) := by decide +kernel
theorem dX10_raise_57 : decode cX10_raise 57 = .ok (.iload_n 3, 1) := by decide +kernel
theorem dX10_raise_58 : decode cX10_raise 58 = .ok (.iconst 1, 1) := by decide +kernel
theorem dX10_raise_59 : decode cX10_raise 59 = .ok (.iadd, 1) := by decide +kernel
theorem dX10_raise_60 : decode cX10_raise 60 = .ok (.iaload, 1) := by decide +kernel
theorem dX10_raise_61 : decode cX10_raise 61 = .ok (.iadd, 1) := by decide +kernel
theorem dX10_raise_62 : decode cX10_raise 62 = .ok (.iastore, 1) := by decide +kernel
theorem dX10_raise_63 : decode cX10_raise 63 = .ok (.iinc 3 1, 3) := by decide +kernel
theorem dX10_raise_66 : decode cX10_raise 66 = .ok (.goto (-47), 3) := by decide +kernel
theorem dX10_raise_69 : decode cX10_raise 69 = .ok (.return_, 1) := by decide +kernel
theorem dX10_lower_0 : decode cX10_lower 0 = .ok (.aload_n 0, 1) := by decide +kernel
theorem dX10_lower_1 : decode cX10_lower 1 = .ok (.getfield 96, 3) := by decide +kernel
theorem dX10_lower_4 : decode cX10_lower 4 = .ok (.iload_n 1, 1) := by decide +kernel
theorem dX10_lower_5 : decode cX10_lower 5 = .ok (.iaload, 1) := by decide +kernel
theorem dX10_lower_6 : decode cX10_lower 6 = .ok (.istore_n 2, 1) := by decide +kernel
theorem dX10_lower_7 : decode cX10_lower 7 = .ok (.iload_n 1, 1) := by decide +kernel
theorem dX10_lower_8 : decode cX10_lower 8 = .ok (.istore_n 3, 1) := by decide +kernel
theorem dX10_lower_9 : decode cX10_lower 9 = .ok (.iload_n 3, 1) := by decide +kernel
theorem dX10_lower_10 : decode cX10_lower 10 = .ok (.iconst 1, 1) := by decide +kernel
theorem dX10_lower_11 : decode cX10_lower 11 = .ok (.if_icmp .le 25, 3) := by decide +kernel
theorem dX10_lower_14 : decode cX10_lower 14 = .ok (.aload_n 0, 1) := by decide +kernel
theorem dX10_lower_15 : decode cX10_lower 15 = .ok (.getfield 96, 3) := by decide +kernel
theorem dX10_lower_18 : decode cX10_lower 18 = .ok (.iload_n 3, 1) := by decide +kernel
theorem dX10_lower_19 : decode cX10_lower 19 = .ok (.aload_n 0, 1) := by decide +kernel
theorem dX10_lower_20 : decode cX10_lower 20 = .ok (.getfield 96, 3) := by decide +kernel
theorem dX10_lower_23 : decode cX10_lower 23 = .ok (.iload_n 3, 1) := by decide +kernel
theorem dX10_lower_24 : decode cX10_lower 24 = .ok (.iconst 1, 1) := by decide +kernel
theorem dX10_lower_25 : decode cX10_lower 25 = .ok (.isub, 1) := by decide +kernel
theorem dX10_lower_26 : decode cX10_lower 26 = .ok (.iaload, 1) := by decide +kernel
theorem dX10_lower_27 : decode cX10_lower 27 = .ok (.iload_n 2, 1) := by decide +kernel
theorem dX10_lower_28 : decode cX10_lower 28 = .ok (.isub, 1) := by decide +kernel
theorem dX10_lower_29 : decode cX10_lower 29 = .ok (.iastore, 1) := by decide +kernel
theorem dX10_lower_30 : decode cX10_lower 30 = .ok (.iinc 3 (-1), 3) := by decide +kernel
theorem dX10_lower_33 : decode cX10_lower 33 = .ok (.goto (-24), 3) := by decide +kernel
theorem dX10_lower_36 : decode cX10_lower 36 = .ok (.aload_n 0, 1) := by decide +kernel
theorem dX10_lower_37 : decode cX10_lower 37 = .ok (.getfield 96, 3) := by decide +kernel
theorem dX10_lower_40 : decode cX10_lower 40 = .ok (.iconst 1, 1) := by decide +kernel
theorem dX10_lower_41 : decode cX10_lower 41 = .ok (.iload_n 2, 1) := by decide +kernel
theorem dX10_lower_42 : decode cX10_lower 42 = .ok (.iastore, 1) := by decide +kernel
theorem dX10_lower_43 : decode cX10_lower 43 = .ok (.return_, 1) := by decide +kernel
theorem dX10_lay_0 : decode cX10_lay 0 = .ok (.iconst 1, 1) := by decide +kernel
theorem dX10_lay_1 : decode cX10_lay 1 = .ok (.istore_n 2, 1) := by decide +kernel
theorem dX10_lay_2 : decode cX10_lay 2 = .ok (.iload_n 2, 1) := by decide +kernel
theorem dX10_lay_3 : decode cX10_lay 3 = .ok (.iload_n 1, 1) := by decide +kernel
theorem dX10_lay_4 : decode cX10_lay 4 = .ok (.if_icmp .gt 58, 3) := by decide +kernel
theorem dX10_lay_7 : decode cX10_lay 7 = .ok (.aload_n 0, 1) := by decide +kernel
theorem dX10_lay_8 : decode cX10_lay 8 = .ok (.getfield 93, 3) := by decide +kernel
theorem dX10_lay_11 : decode cX10_lay 11 = .ok (.iload_n 2, 1) := by decide +kernel
theorem dX10_lay_12 : decode cX10_lay 12 = .ok (.iload_n 2, 1) := by decide +kernel
theorem dX10_lay_13 : decode cX10_lay 13 = .ok (.iastore, 1) := by decide +kernel
theorem dX10_lay_14 : decode cX10_lay 14 = .ok (.aload_n 0, 1) := by decide +kernel
theorem dX10_lay_15 : decode cX10_lay 15 = .ok (.getfield 84, 3) := by decide +kernel
theorem dX10_lay_18 : decode cX10_lay 18 = .ok (.iload_n 2, 1) := by decide +kernel
theorem dX10_lay_19 : decode cX10_lay 19 = .ok (.iconst 0, 1) := by decide +kernel
theorem dX10_lay_20 : decode cX10_lay 20 = .ok (.iastore, 1) := by decide +kernel
theorem dX10_lay_21 : decode cX10_lay 21 = .ok (.aload_n 0, 1) := by decide +kernel
theorem dX10_lay_22 : decode cX10_lay 22 = .ok (.getfield 87, 3) := by decide +kernel
theorem dX10_lay_25 : decode cX10_lay 25 = .ok (.iload_n 2, 1) := by decide +kernel
theorem dX10_lay_26 : decode cX10_lay 26 = .ok (.iconst 0, 1) := by decide +kernel
theorem dX10_lay_27 : decode cX10_lay 27 = .ok (.iastore, 1) := by decide +kernel
theorem dX10_lay_28 : decode cX10_lay 28 = .ok (.aload_n 0, 1) := by decide +kernel
theorem dX10_lay_29 : decode cX10_lay 29 = .ok (.getfield 90, 3) := by decide +kernel
theorem dX10_lay_32 : decode cX10_lay 32 = .ok (.iload_n 2, 1) := by decide +kernel
theorem dX10_lay_33 : decode cX10_lay 33 = .ok (.iload_n 2, 1) := by decide +kernel
theorem dX10_lay_34 : decode cX10_lay 34 = .ok (.iload_n 1, 1) := by decide +kernel
theorem dX10_lay_35 : decode cX10_lay 35 = .ok (.if_icmp .ge 7, 3) := by decide +kernel
theorem dX10_lay_38 : decode cX10_lay 38 = .ok (.iconst 1, 1) := by decide +kernel
theorem dX10_lay_39 : decode cX10_lay 39 = .ok (.goto 4, 3) := by decide +kernel
theorem dX10_lay_42 : decode cX10_lay 42 = .ok (.iconst 0, 1) := by decide +kernel
theorem dX10_lay_43 : decode cX10_lay 43 = .ok (.iastore, 1) := by decide +kernel
theorem dX10_lay_44 : decode cX10_lay 44 = .ok (.aload_n 0, 1) := by decide +kernel
theorem dX10_lay_45 : decode cX10_lay 45 = .ok (.getfield 96, 3) := by decide +kernel
theorem dX10_lay_48 : decode cX10_lay 48 = .ok (.iload_n 2, 1) := by decide +kernel
theorem dX10_lay_49 : decode cX10_lay 49 = .ok (.aload_n 0, 1) := by decide +kernel
theorem dX10_lay_50 : decode cX10_lay 50 = .ok (.getfield 90, 3) := by decide +kernel
theorem dX10_lay_53 : decode cX10_lay 53 = .ok (.iload_n 2, 1) := by decide +kernel
theorem dX10_lay_54 : decode cX10_lay 54 = .ok (.iaload, 1) := by decide +kernel
theorem dX10_lay_55 : decode cX10_lay 55 = .ok (.iastore, 1) := by decide +kernel
theorem dX10_lay_56 : decode cX10_lay 56 = .ok (.iinc 2 1, 3) := by decide +kernel
theorem dX10_lay_59 : decode cX10_lay 59 = .ok (.goto (-57), 3) := by decide +kernel
theorem dX10_lay_62 : decode cX10_lay 62 = .ok (.aload_n 0, 1) := by decide +kernel
theorem dX10_lay_63 : decode cX10_lay 63 = .ok (.getfield 96, 3) := by decide +kernel
theorem dX10_lay_66 : decode cX10_lay 66 = .ok (.iload_n 1, 1) := by decide +kernel
theorem dX10_lay_67 : decode cX10_lay 67 = .ok (.iconst 1, 1) := by decide +kernel
theorem dX10_lay_68 : decode cX10_lay 68 = .ok (.iadd, 1) := by decide +kernel
theorem dX10_lay_69 : decode cX10_lay 69 = .ok (.iconst 0, 1) := by decide +kernel
theorem dX10_lay_70 : decode cX10_lay 70 = .ok (.iastore, 1) := by decide +kernel
theorem dX10_lay_71 : decode cX10_lay 71 = .ok (.aload_n 0, 1) := by decide +kernel
theorem dX10_lay_72 : decode cX10_lay 72 = .ok (.iconst 1, 1) := by decide +kernel
theorem dX10_lay_73 : decode cX10_lay 73 = .ok (.putfield 304, 3) := by decide +kernel
theorem dX10_lay_76 : decode cX10_lay 76 = .ok (.iconst 1, 1) := by decide +kernel
theorem dX10_lay_77 : decode cX10_lay 77 = .ok (.istore_n 2, 1) := by decide +kernel
theorem dX10_lay_78 : decode cX10_lay 78 = .ok (.iconst 0, 1) := by decide +kernel
theorem dX10_lay_79 : decode cX10_lay 79 = .ok (.istore_n 3, 1) := by decide +kernel
theorem dX10_lay_80 : decode cX10_lay 80 = .ok (.iload_n 3, 1) := by decide +kernel
theorem dX10_lay_81 : decode cX10_lay 81 = .ok (.aload_n 0, 1) := by decide +kernel
theorem dX10_lay_82 : decode cX10_lay 82 = .ok (.getfield 200, 3) := by decide +kernel
theorem dX10_lay_85 : decode cX10_lay 85 = .ok (.if_icmp .ge 98, 3) := by decide +kernel
theorem dX10_lay_88 : decode cX10_lay 88 = .ok (.aload_n 0, 1) := by decide +kernel
theorem dX10_lay_89 : decode cX10_lay 89 = .ok (.iload_n 2, 1) := by decide +kernel
theorem dX10_lay_90 : decode cX10_lay 90 = .ok (.aload_n 0, 1) := by decide +kernel
theorem dX10_lay_91 : decode cX10_lay 91 = .ok (.getfield 36, 3) := by decide +kernel
theorem dX10_lay_94 : decode cX10_lay 94 = .ok (.iload_n 3, 1) := by decide +kernel
theorem dX10_lay_95 : decode cX10_lay 95 = .ok (.iaload, 1) := by decide +kernel
theorem dX10_lay_96 : decode cX10_lay 96 = .ok (.invokevirtual 307, 3) := by decide +kernel
theorem dX10_lay_99 : decode cX10_lay 99 = .ok (.aload_n 0, 1) := by decide +kernel
theorem dX10_lay_100 : decode cX10_lay 100 = .ok (.getfield 90, 3) := by decide +kernel
theorem dX10_lay_103 : decode cX10_lay 103 = .ok (.iload_n 2, 1) := by decide +kernel
theorem dX10_lay_104 : decode cX10_lay 104 = .ok (.dup2, 1) := by decide +kernel
theorem dX10_lay_105 : decode cX10_lay 105 = .ok (.iaload, 1) := by decide +kernel
theorem dX10_lay_106 : decode cX10_lay 106 = .ok (.iconst 1, 1) := by decide +kernel
theorem dX10_lay_107 : decode cX10_lay 107 = .ok (.isub, 1) := by decide +kernel
theorem dX10_lay_108 : decode cX10_lay 108 = .ok (.iastore, 1) := by decide +kernel
theorem dX10_lay_109 : decode cX10_lay 109 = .ok (.aload_n 0, 1) := by decide +kernel
theorem dX10_lay_110 : decode cX10_lay 110 = .ok (.getfield 90, 3) := by decide +kernel
theorem dX10_lay_113 : decode cX10_lay 113 = .ok (.iload_n 2, 1) := by decide +kernel
theorem dX10_lay_114 : decode cX10_lay 114 = .ok (.iaload, 1) := by decide +kernel
theorem dX10_lay_115 : decode cX10_lay 115 = .ok (.aload_n 0, 1) := by decide +kernel
theorem dX10_lay_116 : decode cX10_lay 116 = .ok (.getfield 90, 3) := by decide +kernel
theorem dX10_lay_119 : decode cX10_lay 119 = .ok (.iload_n 2, 1) := by decide +kernel
theorem dX10_lay_120 : decode cX10_lay 120 = .ok (.iconst 1, 1) := by decide +kernel
theorem dX10_lay_121 : decode cX10_lay 121 = .ok (.iadd, 1) := by decide +kernel
theorem dX10_lay_122 : decode cX10_lay 122 = .ok (.iaload, 1) := by decide +kernel
theorem dX10_lay_123 : decode cX10_lay 123 = .ok (.if_icmp .ge 7, 3) := by decide +kernel
theorem dX10_lay_126 : decode cX10_lay 126 = .ok (.iconst 1, 1) := by decide +kernel
theorem dX10_lay_127 : decode cX10_lay 127 = .ok (.goto 4, 3) := by decide +kernel
theorem dX10_lay_130 : decode cX10_lay 130 = .ok (.iconst 0, 1) := by decide +kernel
theorem dX10_lay_131 : decode cX10_lay 131 = .ok (.istore 4, 2) := by decide +kernel
theorem dX10_lay_133 : decode cX10_lay 133 = .ok (.iload 4, 2) := by decide +kernel
theorem dX10_lay_135 : decode cX10_lay 135 = .ok (.ifCond .ne 29, 3) := by decide +kernel
theorem dX10_lay_138 : decode cX10_lay 138 = .ok (.aload_n 0, 1) := by decide +kernel
theorem dX10_lay_139 : decode cX10_lay 139 = .ok (.getfield 90, 3) := by decide +kernel
theorem dX10_lay_142 : decode cX10_lay 142 = .ok (.iload_n 2, 1) := by decide +kernel
theorem dX10_lay_143 : decode cX10_lay 143 = .ok (.iaload, 1) := by decide +kernel
theorem dX10_lay_144 : decode cX10_lay 144 = .ok (.ifCond .ne 20, 3) := by decide +kernel
theorem dX10_lay_147 : decode cX10_lay 147 = .ok (.iload_n 3, 1) := by decide +kernel
theorem dX10_lay_148 : decode cX10_lay 148 = .ok (.aload_n 0, 1) := by decide +kernel
theorem dX10_lay_149 : decode cX10_lay 149 = .ok (.getfield 200, 3) := by decide +kernel
theorem dX10_lay_152 : decode cX10_lay 152 = .ok (.iconst 1, 1) := by decide +kernel
theorem dX10_lay_153 : decode cX10_lay 153 = .ok (.isub, 1) := by decide +kernel
theorem dX10_lay_154 : decode cX10_lay 154 = .ok (.if_icmp .ge 10, 3) := by decide +kernel
theorem dX10_lay_157 : decode cX10_lay 157 = .ok (.aload_n 0, 1) := by decide +kernel
theorem dX10_lay_158 : decode cX10_lay 158 = .ok (.iload_n 1, 1) := by decide +kernel
theorem dX10_lay_159 : decode cX10_lay 159 = .ok (.iconst 1, 1) := by decide +kernel
theorem dX10_lay_160 : decode cX10_lay 160 = .ok (.isub, 1) := by decide +kernel
theorem dX10_lay_161 : decode cX10_lay 161 = .ok (.invokevirtual 310, 3) := by decide +kernel
theorem dX10_lay_164 : decode cX10_lay 164 = .ok (.iload 4, 2) := by decide +kernel
theorem dX10_lay_166 : decode cX10_lay 166 = .ok (.ifCond .eq 9, 3) := by decide +kernel
theorem dX10_lay_169 : decode cX10_lay 169 = .ok (.iload_n 2, 1) := by decide +kernel
theorem dX10_lay_170 : decode cX10_lay 170 = .ok (.iconst 1, 1) := by decide +kernel
theorem dX10_lay_171 : decode cX10_lay 171 = .ok (.iadd, 1) := by decide +kernel
theorem dX10_lay_172 : decode cX10_lay 172 = .ok (.goto 4, 3) := by decide +kernel
theorem dX10_lay_175 : decode cX10_lay 175 = .ok (.iconst 1, 1) := by decide +kernel
theorem dX10_lay_176 : decode cX10_lay 176 = .ok (.istore_n 2, 1) := by decide +kernel
theorem dX10_lay_177 : decode cX10_lay 177 = .ok (.iinc 3 1, 3) := by decide +kernel
theorem dX10_lay_180 : decode cX10_lay 180 = .ok (.goto (-100), 3) := by decide +kernel
theorem dX10_lay_183 : decode cX10_lay 183 = .ok (.return_, 1) := by decide +kernel
theorem dX10_allThought_0 : decode cX10_allThought 0 = .ok (.iconst 1, 1) := by decide +kernel
theorem dX10_allThought_1 : decode cX10_allThought 1 = .ok (.istore_n 2, 1) := by decide +kernel
theorem dX10_allThought_2 : decode cX10_allThought 2 = .ok (.iconst 1, 1) := by decide +kernel
theorem dX10_allThought_3 : decode cX10_allThought 3 = .ok (.istore_n 3, 1) := by decide +kernel
theorem dX10_allThought_4 : decode cX10_allThought 4 = .ok (.iload_n 3, 1) := by decide +kernel
theorem dX10_allThought_5 : decode cX10_allThought 5 = .ok (.iload_n 1, 1) := by decide +kernel
theorem dX10_allThought_6 : decode cX10_allThought 6 = .ok (.if_icmp .gt 33, 3) := by decide +kernel
theorem dX10_allThought_9 : decode cX10_allThought 9 = .ok (.iload_n 2, 1) := by decide +kernel
theorem dX10_allThought_10 : decode cX10_allThought 10 = .ok (.ifCond .eq 21, 3) := by decide +kernel
theorem dX10_allThought_13 : decode cX10_allThought 13 = .ok (.aload_n 0, 1) := by decide +kernel
theorem dX10_allThought_14 : decode cX10_allThought 14 = .ok (.getfield 90, 3) := by decide +kernel
theorem dX10_allThought_17 : decode cX10_allThought 17 = .ok (.aload_n 0, 1) := by decide +kernel
theorem dX10_allThought_18 : decode cX10_allThought 18 = .ok (.getfield 93, 3) := by decide +kernel
theorem dX10_allThought_21 : decode cX10_allThought 21 = .ok (.iload_n 3, 1) := by decide +kernel
theorem dX10_allThought_22 : decode cX10_allThought 22 = .ok (.iaload, 1) := by decide +kernel
theorem dX10_allThought_23 : decode cX10_allThought 23 = .ok (.iaload, 1) := by decide +kernel
theorem dX10_allThought_24 : decode cX10_allThought 24 = .ok (.ifCond .le 7, 3) := by decide +kernel
theorem dX10_allThought_27 : decode cX10_allThought 27 = .ok (.iconst 1, 1) := by decide +kernel
theorem dX10_allThought_28 : decode cX10_allThought 28 = .ok (.goto 4, 3) := by decide +kernel
theorem dX10_allThought_31 : decode cX10_allThought 31 = .ok (.iconst 0, 1) := by decide +kernel
theorem dX10_allThought_32 : decode cX10_allThought 32 = .ok (.istore_n 2, 1) := by decide +kernel
theorem dX10_allThought_33 : decode cX10_allThought 33 = .ok (.iinc 3 1, 3) := by decide +kernel
theorem dX10_allThought_36 : decode cX10_allThought 36 = .ok (.goto (-32), 3) := by decide +kernel
theorem dX10_allThought_39 : decode cX10_allThought 39 = .ok (.iload_n 2, 1) := by decide +kernel
theorem dX10_allThought_40 : decode cX10_allThought 40 = .ok (.ireturn, 1) := by decide +kernel
theorem dX10_together_0 : decode cX10_together 0 = .ok (.aload_n 0, 1) := by decide +kernel
theorem dX10_together_1 : decode cX10_together 1 = .ok (.getfield 93, 3) := by decide +kernel
theorem dX10_together_4 : decode cX10_together 4 = .ok (.iload_n 1, 1) := by decide +kernel
theorem dX10_together_5 : decode cX10_together 5 = .ok (.iconst 1, 1) := by decide +kernel
theorem dX10_together_6 : decode cX10_together 6 = .ok (.iadd, 1) := by decide +kernel
theorem dX10_together_7 : decode cX10_together 7 = .ok (.iaload, 1) := by decide +kernel
theorem dX10_together_8 : decode cX10_together 8 = .ok (.istore_n 2, 1) := by decide +kernel
theorem dX10_together_9 : decode cX10_together 9 = .ok (.aload_n 0, 1) := by decide +kernel
theorem dX10_together_10 : decode cX10_together 10 = .ok (.iload_n 1, 1) := by decide +kernel
theorem dX10_together_11 : decode cX10_together 11 = .ok (.invokevirtual 313, 3) := by decide +kernel
theorem dX10_together_14 : decode cX10_together 14 = .ok (.istore_n 3, 1) := by decide +kernel
theorem dX10_together_15 : decode cX10_together 15 = .ok (.iconst 0, 1) := by decide +kernel
theorem dX10_together_16 : decode cX10_together 16 = .ok (.istore 4, 2) := by decide +kernel
theorem dX10_together_18 : decode cX10_together 18 = .ok (.iconst 1, 1) := by decide +kernel
theorem dX10_together_19 : decode cX10_together 19 = .ok (.istore 5, 2) := by decide +kernel
theorem dX10_together_21 : decode cX10_together 21 = .ok (.iload 5, 2) := by decide +kernel
theorem dX10_together_23 : decode cX10_together 23 = .ok (.iload_n 1, 1) := by decide +kernel
theorem dX10_together_24 : decode cX10_together 24 = .ok (.if_icmp .gt 74, 3) := by decide +kernel
theorem dX10_together_27 : decode cX10_together 27 = .ok (.aload_n 0, 1) := by decide +kernel
theorem dX10_together_28 : decode cX10_together 28 = .ok (.getfield 93, 3) := by decide +kernel
theorem dX10_together_31 : decode cX10_together 31 = .ok (.iload 5, 2) := by decide +kernel
theorem dX10_together_33 : decode cX10_together 33 = .ok (.iaload, 1) := by decide +kernel
theorem dX10_together_34 : decode cX10_together 34 = .ok (.istore 6, 2) := by decide +kernel
theorem dX10_together_36 : decode cX10_together 36 = .ok (.aload_n 0, 1) := by decide +kernel
theorem dX10_together_37 : decode cX10_together 37 = .ok (.getfield 90, 3) := by decide +kernel
theorem dX10_together_40 : decode cX10_together 40 = .ok (.iload 6, 2) := by decide +kernel
theorem dX10_together_42 : decode cX10_together 42 = .ok (.iaload, 1) := by decide +kernel
theorem dX10_together_43 : decode cX10_together 43 = .ok (.ifCond .ne 49, 3) := by decide +kernel
theorem dX10_together_46 : decode cX10_together 46 = .ok (.aload_n 0, 1) := by decide +kernel
theorem dX10_together_47 : decode cX10_together 47 = .ok (.getfield 84, 3) := by decide +kernel
theorem dX10_together_50 : decode cX10_together 50 = .ok (.iload 6, 2) := by decide +kernel
theorem dX10_together_52 : decode cX10_together 52 = .ok (.iaload, 1) := by decide +kernel
theorem dX10_together_53 : decode cX10_together 53 = .ok (.aload_n 0, 1) := by decide +kernel
theorem dX10_together_54 : decode cX10_together 54 = .ok (.getfield 87, 3) := by decide +kernel
theorem dX10_together_57 : decode cX10_together 57 = .ok (.iload 6, 2) := by decide +kernel
theorem dX10_together_59 : decode cX10_together 59 = .ok (.iaload, 1) := by decide +kernel
theorem dX10_together_60 : decode cX10_together 60 = .ok (.if_icmp .ge 32, 3) := by decide +kernel
theorem dX10_together_63 : decode cX10_together 63 = .ok (.aload_n 0, 1) := by decide +kernel
theorem dX10_together_64 : decode cX10_together 64 = .ok (.getfield 66, 3) := by decide +kernel
theorem dX10_together_67 : decode cX10_together 67 = .ok (.iload 4, 2) := by decide +kernel
theorem dX10_together_69 : decode cX10_together 69 = .ok (.aload_n 0, 1) := by decide +kernel
theorem dX10_together_70 : decode cX10_together 70 = .ok (.getfield 81, 3) := by decide +kernel
theorem dX10_together_73 : decode cX10_together 73 = .ok (.sipush 208, 3) := by decide +kernel
theorem dX10_together_76 : decode cX10_together 76 = .ok (.iload 6, 2) := by decide +kernel
theorem dX10_together_78 : decode cX10_together 78 = .ok (.imul, 1) := by decide +kernel
theorem dX10_together_79 : decode cX10_together 79 = .ok (.aload_n 0, 1) := by decide +kernel
theorem dX10_together_80 : decode cX10_together 80 = .ok (.getfield 84, 3) := by decide +kernel
theorem dX10_together_83 : decode cX10_together 83 = .ok (.iload 6, 2) := by decide +kernel
theorem dX10_together_85 : decode cX10_together 85 = .ok (.iaload, 1) := by decide +kernel
theorem dX10_together_86 : decode cX10_together 86 = .ok (.iadd, 1) := by decide +kernel
theorem dX10_together_87 : decode cX10_together 87 = .ok (.iaload, 1) := by decide +kernel
theorem dX10_together_88 : decode cX10_together 88 = .ok (.iastore, 1) := by decide +kernel
theorem dX10_together_89 : decode cX10_together 89 = .ok (.iinc 4 1, 3) := by decide +kernel
theorem dX10_together_92 : decode cX10_together 92 = .ok (.iinc 5 1, 3) := by decide +kernel
theorem dX10_together_95 : decode cX10_together 95 = .ok (.goto (-74), 3) := by decide +kernel
theorem dX10_together_98 : decode cX10_together 98 = .ok (.iload 4, 2) := by decide +kernel
theorem dX10_together_100 : decode cX10_together 100 = .ok (.ifCond .ne 7, 3) := by decide +kernel
theorem dX10_together_103 : decode cX10_together 103 = .ok (.iconst (-1), 1) := by decide +kernel
theorem dX10_together_104 : decode cX10_together 104 = .ok (.goto 24, 3) := by decide +kernel
theorem dX10_together_107 : decode cX10_together 107 = .ok (.iload 4, 2) := by decide +kernel
theorem dX10_together_109 : decode cX10_together 109 = .ok (.iconst 1, 1) := by decide +kernel
theorem dX10_together_110 : decode cX10_together 110 = .ok (.if_icmp .ne 12, 3) := by decide +kernel
theorem dX10_together_113 : decode cX10_together 113 = .ok (.aload_n 0, 1) := by decide +kernel
theorem dX10_together_114 : decode cX10_together 114 = .ok (.getfield 66, 3) := by decide +kernel
theorem dX10_together_117 : decode cX10_together 117 = .ok (.iconst 0, 1) := by decide +kernel
theorem dX10_together_118 : decode cX10_together 118 = .ok (.iaload, 1) := by decide +kernel
theorem dX10_together_119 : decode cX10_together 119 = .ok (.goto 9, 3) := by decide +kernel
theorem dX10_together_122 : decode cX10_together 122 = .ok (.aload_n 0, 1) := by decide +kernel
theorem dX10_together_123 : decode cX10_together 123 = .ok (.iload 4, 2) := by decide +kernel
theorem dX10_together_125 : decode cX10_together 125 = .ok (.invokevirtual 291, 3) := by decide +kernel
theorem dX10_together_128 : decode cX10_together 128 = .ok (.istore 5, 2) := by decide +kernel
theorem dX10_together_130 : decode cX10_together 130 = .ok (.aload_n 0, 1) := by decide +kernel
theorem dX10_together_131 : decode cX10_together 131 = .ok (.getfield 134, 3) := by decide +kernel
theorem dX10_together_134 : decode cX10_together 134 = .ok (.ifCond .le 4, 3) := by decide +kernel
theorem dX10_together_137 : decode cX10_together 137 = .ok (.return_, 1) := by decide +kernel
theorem dX10_together_138 : decode cX10_together 138 = .ok (.iconst 1, 1) := by decide +kernel
theorem dX10_together_139 : decode cX10_together 139 = .ok (.istore 6, 2) := by decide +kernel
theorem dX10_together_141 : decode cX10_together 141 = .ok (.iload 6, 2) := by decide +kernel
theorem dX10_together_143 : decode cX10_together 143 = .ok (.iload_n 1, 1) := by decide +kernel
theorem dX10_together_144 : decode cX10_together 144 = .ok (.if_icmp .gt 53, 3) := by decide +kernel
theorem dX10_together_147 : decode cX10_together 147 = .ok (.aload_n 0, 1) := by decide +kernel
theorem dX10_together_148 : decode cX10_together 148 = .ok (.getfield 93, 3) := by decide +kernel
theorem dX10_together_151 : decode cX10_together 151 = .ok (.iload 6, 2) := by decide +kernel
theorem dX10_together_153 : decode cX10_together 153 = .ok (.iaload, 1) := by decide +kernel
theorem dX10_together_154 : decode cX10_together 154 = .ok (.istore 7, 2) := by decide +kernel
theorem dX10_together_156 : decode cX10_together 156 = .ok (.aload_n 0, 1) := by decide +kernel
theorem dX10_together_157 : decode cX10_together 157 = .ok (.getfield 90, 3) := by decide +kernel
theorem dX10_together_160 : decode cX10_together 160 = .ok (.iload 7, 2) := by decide +kernel
theorem dX10_together_162 : decode cX10_together 162 = .ok (.iaload, 1) := by decide +kernel
theorem dX10_together_163 : decode cX10_together 163 = .ok (.ifCond .le 17, 3) := by decide +kernel
theorem dX10_together_166 : decode cX10_together 166 = .ok (.aload_n 0, 1) := by decide +kernel
theorem dX10_together_167 : decode cX10_together 167 = .ok (.getfield 90, 3) := by decide +kernel
theorem dX10_together_170 : decode cX10_together 170 = .ok (.iload 7, 2) := by decide +kernel
theorem dX10_together_172 : decode cX10_together 172 = .ok (.dup2, 1) := by decide +kernel
theorem dX10_together_173 : decode cX10_together 173 = .ok (.iaload, 1) := by decide +kernel
theorem dX10_together_174 : decode cX10_together 174 = .ok (.iconst 1, 1) := by decide +kernel
theorem dX10_together_175 : decode cX10_together 175 = .ok (.isub, 1) := by decide +kernel
theorem dX10_together_176 : decode cX10_together 176 = .ok (.iastore, 1) := by decide +kernel
theorem dX10_together_177 : decode cX10_together 177 = .ok (.goto 14, 3) := by decide +kernel
theorem dX10_together_180 : decode cX10_together 180 = .ok (.aload_n 0, 1) := by decide +kernel
theorem dX10_together_181 : decode cX10_together 181 = .ok (.getfield 84, 3) := by decide +kernel
theorem dX10_together_184 : decode cX10_together 184 = .ok (.iload 7, 2) := by decide +kernel
theorem dX10_together_186 : decode cX10_together 186 = .ok (.dup2, 1) := by decide +kernel
theorem dX10_together_187 : decode cX10_together 187 = .ok (.iaload, 1) := by decide +kernel
theorem dX10_together_188 : decode cX10_together 188 = .ok (.iconst 1, 1) := by decide +kernel
theorem dX10_together_189 : decode cX10_together 189 = .ok (.iadd, 1) := by decide +kernel
theorem dX10_together_190 : decode cX10_together 190 = .ok (.iastore, 1) := by decide +kernel
theorem dX10_together_191 : decode cX10_together 191 = .ok (.iinc 6 1, 3) := by decide +kernel
theorem dX10_together_194 : decode cX10_together 194 = .ok (.goto (-53), 3) := by decide +kernel
theorem dX10_together_197 : decode cX10_together 197 = .ok (.iload_n 3, 1) := by decide +kernel
theorem dX10_together_198 : decode cX10_together 198 = .ok (.ifCond .eq 16, 3) := by decide +kernel
theorem dX10_together_201 : decode cX10_together 201 = .ok (.aload_n 0, 1) := by decide +kernel
theorem dX10_together_202 : decode cX10_together 202 = .ok (.getfield 90, 3) := by decide +kernel
theorem dX10_together_205 : decode cX10_together 205 = .ok (.iload_n 2, 1) := by decide +kernel
theorem dX10_together_206 : decode cX10_together 206 = .ok (.dup2, 1) := by decide +kernel
theorem dX10_together_207 : decode cX10_together 207 = .ok (.iaload, 1) := by decide +kernel
theorem dX10_together_208 : decode cX10_together 208 = .ok (.iconst 1, 1) := by decide +kernel
theorem dX10_together_209 : decode cX10_together 209 = .ok (.iadd, 1) := by decide +kernel
theorem dX10_together_210 : decode cX10_together 210 = .ok (.iastore, 1) := by decide +kernel
theorem dX10_together_211 : decode cX10_together 211 = .ok (.goto 10, 3) := by decide +kernel
theorem dX10_together_214 : decode cX10_together 214 = .ok (.aload_n 0, 1) := by decide +kernel
theorem dX10_together_215 : decode cX10_together 215 = .ok (.iload_n 2, 1) := by decide +kernel
theorem dX10_together_216 : decode cX10_together 216 = .ok (.iload 5, 2) := by decide +kernel
theorem dX10_together_218 : decode cX10_together 218 = .ok (.invokevirtual 307, 3) := by decide +kernel
theorem dX10_together_221 : decode cX10_together 221 = .ok (.return_, 1) := by decide +kernel
theorem dX10_rotate_0 : decode cX10_rotate 0 = .ok (.aload_n 0, 1) := by decide +kernel
theorem dX10_rotate_1 : decode cX10_rotate 1 = .ok (.getfield 93, 3) := by decide +kernel
theorem dX10_rotate_4 : decode cX10_rotate 4 = .ok (.iload_n 1, 1) := by decide +kernel
theorem dX10_rotate_5 : decode cX10_rotate 5 = .ok (.iaload, 1) := by decide +kernel
theorem dX10_rotate_6 : decode cX10_rotate 6 = .ok (.istore_n 2, 1) := by decide +kernel
theorem dX10_rotate_7 : decode cX10_rotate 7 = .ok (.iload_n 1, 1) := by decide +kernel
theorem dX10_rotate_8 : decode cX10_rotate 8 = .ok (.istore_n 3, 1) := by decide +kernel
theorem dX10_rotate_9 : decode cX10_rotate 9 = .ok (.iload_n 3, 1) := by decide +kernel
theorem dX10_rotate_10 : decode cX10_rotate 10 = .ok (.iconst 1, 1) := by decide +kernel
theorem dX10_rotate_11 : decode cX10_rotate 11 = .ok (.if_icmp .le 23, 3) := by decide +kernel
theorem dX10_rotate_14 : decode cX10_rotate 14 = .ok (.aload_n 0, 1) := by decide +kernel
theorem dX10_rotate_15 : decode cX10_rotate 15 = .ok (.getfield 93, 3) := by decide +kernel
theorem dX10_rotate_18 : decode cX10_rotate 18 = .ok (.iload_n 3, 1) := by decide +kernel
theorem dX10_rotate_19 : decode cX10_rotate 19 = .ok (.aload_n 0, 1) := by decide +kernel
theorem dX10_rotate_20 : decode cX10_rotate 20 = .ok (.getfield 93, 3) := by decide +kernel
theorem dX10_rotate_23 : decode cX10_rotate 23 = .ok (.iload_n 3, 1) := by decide +kernel
theorem dX10_rotate_24 : decode cX10_rotate 24 = .ok (.iconst 1, 1) := by decide +kernel
theorem dX10_rotate_25 : decode cX10_rotate 25 = .ok (.isub, 1) := by decide +kernel
theorem dX10_rotate_26 : decode cX10_rotate 26 = .ok (.iaload, 1) := by decide +kernel
theorem dX10_rotate_27 : decode cX10_rotate 27 = .ok (.iastore, 1) := by decide +kernel
theorem dX10_rotate_28 : decode cX10_rotate 28 = .ok (.iinc 3 (-1), 3) := by decide +kernel
theorem dX10_rotate_31 : decode cX10_rotate 31 = .ok (.goto (-22), 3) := by decide +kernel
theorem dX10_rotate_34 : decode cX10_rotate 34 = .ok (.aload_n 0, 1) := by decide +kernel
theorem dX10_rotate_35 : decode cX10_rotate 35 = .ok (.getfield 93, 3) := by decide +kernel
theorem dX10_rotate_38 : decode cX10_rotate 38 = .ok (.iconst 1, 1) := by decide +kernel
theorem dX10_rotate_39 : decode cX10_rotate 39 = .ok (.iload_n 2, 1) := by decide +kernel
theorem dX10_rotate_40 : decode cX10_rotate 40 = .ok (.iastore, 1) := by decide +kernel
theorem dX10_rotate_41 : decode cX10_rotate 41 = .ok (.aload_n 0, 1) := by decide +kernel
theorem dX10_rotate_42 : decode cX10_rotate 42 = .ok (.getfield 93, 3) := by decide +kernel
theorem dX10_rotate_45 : decode cX10_rotate 45 = .ok (.iload_n 1, 1) := by decide +kernel
theorem dX10_rotate_46 : decode cX10_rotate 46 = .ok (.iaload, 1) := by decide +kernel
theorem dX10_rotate_47 : decode cX10_rotate 47 = .ok (.istore_n 3, 1) := by decide +kernel
theorem dX10_rotate_48 : decode cX10_rotate 48 = .ok (.aload_n 0, 1) := by decide +kernel
theorem dX10_rotate_49 : decode cX10_rotate 49 = .ok (.getfield 84, 3) := by decide +kernel
theorem dX10_rotate_52 : decode cX10_rotate 52 = .ok (.iload_n 3, 1) := by decide +kernel
theorem dX10_rotate_53 : decode cX10_rotate 53 = .ok (.iconst 0, 1) := by decide +kernel
theorem dX10_rotate_54 : decode cX10_rotate 54 = .ok (.iastore, 1) := by decide +kernel
theorem dX10_rotate_55 : decode cX10_rotate 55 = .ok (.aload_n 0, 1) := by decide +kernel
theorem dX10_rotate_56 : decode cX10_rotate 56 = .ok (.getfield 87, 3) := by decide +kernel
theorem dX10_rotate_59 : decode cX10_rotate 59 = .ok (.iload_n 3, 1) := by decide +kernel
theorem dX10_rotate_60 : decode cX10_rotate 60 = .ok (.iconst 0, 1) := by decide +kernel
theorem dX10_rotate_61 : decode cX10_rotate 61 = .ok (.iastore, 1) := by decide +kernel
theorem dX10_rotate_62 : decode cX10_rotate 62 = .ok (.return_, 1) := by decide +kernel
theorem dX10_gather_0 : decode cX10_gather 0 = .ok (.aload_n 0, 1) := by decide +kernel
theorem dX10_gather_1 : decode cX10_gather 1 = .ok (.iconst 0, 1) := by decide +kernel
theorem dX10_gather_2 : decode cX10_gather 2 = .ok (.putfield 200, 3) := by decide +kernel
theorem dX10_gather_5 : decode cX10_gather 5 = .ok (.iconst 1, 1) := by decide +kernel
theorem dX10_gather_6 : decode cX10_gather 6 = .ok (.istore_n 2, 1) := by decide +kernel
theorem dX10_gather_7 : decode cX10_gather 7 = .ok (.iload_n 2, 1) := by decide +kernel
theorem dX10_gather_8 : decode cX10_gather 8 = .ok (.iload_n 1, 1) := by decide +kernel
theorem dX10_gather_9 : decode cX10_gather 9 = .ok (.if_icmp .gt 73, 3) := by decide +kernel
theorem dX10_gather_12 : decode cX10_gather 12 = .ok (.aload_n 0, 1) := by decide +kernel
theorem dX10_gather_13 : decode cX10_gather 13 = .ok (.getfield 93, 3) := by decide +kernel
theorem dX10_gather_16 : decode cX10_gather 16 = .ok (.iload_n 2, 1) := by decide +kernel
theorem dX10_gather_17 : decode cX10_gather 17 = .ok (.iaload, 1) := by decide +kernel
theorem dX10_gather_18 : decode cX10_gather 18 = .ok (.istore_n 3, 1) := by decide +kernel
theorem dX10_gather_19 : decode cX10_gather 19 = .ok (.aload_n 0, 1) := by decide +kernel
theorem dX10_gather_20 : decode cX10_gather 20 = .ok (.getfield 84, 3) := by decide +kernel
theorem dX10_gather_23 : decode cX10_gather 23 = .ok (.iload_n 3, 1) := by decide +kernel
theorem dX10_gather_24 : decode cX10_gather 24 = .ok (.iaload, 1) := by decide +kernel
theorem dX10_gather_25 : decode cX10_gather 25 = .ok (.istore 4, 2) := by decide +kernel
theorem dX10_gather_27 : decode cX10_gather 27 = .ok (.iload 4, 2) := by decide +kernel
theorem dX10_gather_29 : decode cX10_gather 29 = .ok (.aload_n 0, 1) := by decide +kernel
theorem dX10_gather_30 : decode cX10_gather 30 = .ok (.getfield 87, 3) := by decide +kernel
theorem dX10_gather_33 : decode cX10_gather 33 = .ok (.iload_n 3, 1) := by decide +kernel
theorem dX10_gather_34 : decode cX10_gather 34 = .ok (.iaload, 1) := by decide +kernel
theorem dX10_gather_35 : decode cX10_gather 35 = .ok (.if_icmp .ge 41, 3) := by decide +kernel
theorem dX10_gather_38 : decode cX10_gather 38 = .ok (.aload_n 0, 1) := by decide +kernel
theorem dX10_gather_39 : decode cX10_gather 39 = .ok (.getfield 36, 3) := by decide +kernel
theorem dX10_gather_42 : decode cX10_gather 42 = .ok (.aload_n 0, 1) := by decide +kernel
theorem dX10_gather_43 : decode cX10_gather 43 = .ok (.getfield 200, 3) := by decide +kernel
theorem dX10_gather_46 : decode cX10_gather 46 = .ok (.aload_n 0, 1) := by decide +kernel
theorem dX10_gather_47 : decode cX10_gather 47 = .ok (.getfield 81, 3) := by decide +kernel
theorem dX10_gather_50 : decode cX10_gather 50 = .ok (.sipush 208, 3) := by decide +kernel
theorem dX10_gather_53 : decode cX10_gather 53 = .ok (.iload_n 3, 1) := by decide +kernel
theorem dX10_gather_54 : decode cX10_gather 54 = .ok (.imul, 1) := by decide +kernel
theorem dX10_gather_55 : decode cX10_gather 55 = .ok (.iload 4, 2) := by decide +kernel
theorem dX10_gather_57 : decode cX10_gather 57 = .ok (.iadd, 1) := by decide +kernel
theorem dX10_gather_58 : decode cX10_gather 58 = .ok (.iaload, 1) := by decide +kernel
theorem dX10_gather_59 : decode cX10_gather 59 = .ok (.iastore, 1) := by decide +kernel
theorem dX10_gather_60 : decode cX10_gather 60 = .ok (.aload_n 0, 1) := by decide +kernel
theorem dX10_gather_61 : decode cX10_gather 61 = .ok (.dup, 1) := by decide +kernel
theorem dX10_gather_62 : decode cX10_gather 62 = .ok (.getfield 200, 3) := by decide +kernel
theorem dX10_gather_65 : decode cX10_gather 65 = .ok (.iconst 1, 1) := by decide +kernel
theorem dX10_gather_66 : decode cX10_gather 66 = .ok (.iadd, 1) := by decide +kernel
theorem dX10_gather_67 : decode cX10_gather 67 = .ok (.putfield 200, 3) := by decide +kernel
theorem dX10_gather_70 : decode cX10_gather 70 = .ok (.iinc 4 1, 3) := by decide +kernel
theorem dX10_gather_73 : decode cX10_gather 73 = .ok (.goto (-46), 3) := by decide +kernel
theorem dX10_gather_76 : decode cX10_gather 76 = .ok (.iinc 2 1, 3) := by decide +kernel
theorem dX10_gather_79 : decode cX10_gather 79 = .ok (.goto (-72), 3) := by decide +kernel
theorem dX10_gather_82 : decode cX10_gather 82 = .ok (.return_, 1) := by decide +kernel
theorem dX10_poly_0 : decode cX10_poly 0 = .ok (.aload_n 0, 1) := by decide +kernel
theorem dX10_poly_1 : decode cX10_poly 1 = .ok (.iload_n 1, 1) := by decide +kernel
theorem dX10_poly_2 : decode cX10_poly 2 = .ok (.iconst 3, 1) := by decide +kernel
theorem dX10_poly_3 : decode cX10_poly 3 = .ok (.bipush 6, 2) := by decide +kernel
theorem dX10_poly_5 : decode cX10_poly 5 = .ok (.invokestatic 193, 3) := by decide +kernel
theorem dX10_poly_8 : decode cX10_poly 8 = .ok (.ifCond .ne 7, 3) := by decide +kernel
theorem dX10_poly_11 : decode cX10_poly 11 = .ok (.iconst 1, 1) := by decide +kernel
theorem dX10_poly_12 : decode cX10_poly 12 = .ok (.goto 15, 3) := by decide +kernel
theorem dX10_poly_15 : decode cX10_poly 15 = .ok (.aload_n 0, 1) := by decide +kernel
theorem dX10_poly_16 : decode cX10_poly 16 = .ok (.getfield 197, 3) := by decide +kernel
theorem dX10_poly_19 : decode cX10_poly 19 = .ok (.ifCond .eq 7, 3) := by decide +kernel
theorem dX10_poly_22 : decode cX10_poly 22 = .ok (.iconst 2, 1) := by decide +kernel
theorem dX10_poly_23 : decode cX10_poly 23 = .ok (.goto 4, 3) := by decide +kernel
theorem dX10_poly_26 : decode cX10_poly 26 = .ok (.iconst 0, 1) := by decide +kernel
theorem dX10_poly_27 : decode cX10_poly 27 = .ok (.putfield 125, 3) := by decide +kernel
theorem dX10_poly_30 : decode cX10_poly 30 = .ok (.aload_n 0, 1) := by decide +kernel
theorem dX10_poly_31 : decode cX10_poly 31 = .ok (.getfield 125, 3) := by decide +kernel
theorem dX10_poly_34 : decode cX10_poly 34 = .ok (.ifCond .gt 10, 3) := by decide +kernel
theorem dX10_poly_37 : decode cX10_poly 37 = .ok (.aload_n 0, 1) := by decide +kernel
theorem dX10_poly_38 : decode cX10_poly 38 = .ok (.getfield 200, 3) := by decide +kernel
theorem dX10_poly_41 : decode cX10_poly 41 = .ok (.ifCond .ne 5, 3) := by decide +kernel
theorem dX10_poly_44 : decode cX10_poly 44 = .ok (.iconst 0, 1) := by decide +kernel
theorem dX10_poly_45 : decode cX10_poly 45 = .ok (.ireturn, 1) := by decide +kernel
theorem dX10_poly_46 : decode cX10_poly 46 = .ok (.iload_n 1, 1) := by decide +kernel
theorem dX10_poly_47 : decode cX10_poly 47 = .ok (.iconst 1, 1) := by decide +kernel
theorem dX10_poly_48 : decode cX10_poly 48 = .ok (.isub, 1) := by decide +kernel
theorem dX10_poly_49 : decode cX10_poly 49 = .ok (.istore_n 2, 1) := by decide +kernel
theorem dX10_poly_50 : decode cX10_poly 50 = .ok (.aload_n 0, 1) := by decide +kernel
theorem dX10_poly_51 : decode cX10_poly 51 = .ok (.iconst 0, 1) := by decide +kernel
theorem dX10_poly_52 : decode cX10_poly 52 = .ok (.putfield 134, 3) := by decide +kernel
theorem dX10_poly_55 : decode cX10_poly 55 = .ok (.aload_n 0, 1) := by decide +kernel
theorem dX10_poly_56 : decode cX10_poly 56 = .ok (.iload_n 1, 1) := by decide +kernel
theorem dX10_poly_57 : decode cX10_poly 57 = .ok (.invokevirtual 317, 3) := by decide +kernel
theorem dX10_poly_60 : decode cX10_poly 60 = .ok (.aload_n 0, 1) := by decide +kernel
theorem dX10_poly_61 : decode cX10_poly 61 = .ok (.getfield 304, 3) := by decide +kernel
theorem dX10_poly_64 : decode cX10_poly 64 = .ok (.ifCond .le 69, 3) := by decide +kernel
theorem dX10_poly_67 : decode cX10_poly 67 = .ok (.aload_n 0, 1) := by decide +kernel
theorem dX10_poly_68 : decode cX10_poly 68 = .ok (.getfield 134, 3) := by decide +kernel
theorem dX10_poly_71 : decode cX10_poly 71 = .ok (.ifCond .ne 62, 3) := by decide +kernel
theorem dX10_poly_74 : decode cX10_poly 74 = .ok (.aload_n 0, 1) := by decide +kernel
theorem dX10_poly_75 : decode cX10_poly 75 = .ok (.getfield 96, 3) := by decide +kernel
theorem dX10_poly_78 : decode cX10_poly 78 = .ok (.iload_n 2, 1) := by decide +kernel
theorem dX10_poly_79 : decode cX10_poly 79 = .ok (.iaload, 1) := by decide +kernel
theorem dX10_poly_80 : decode cX10_poly 80 = .ok (.istore_n 3, 1) := by decide +kernel
theorem dX10_poly_81 : decode cX10_poly 81 = .ok (.iload_n 3, 1) := by decide +kernel
theorem dX10_poly_82 : decode cX10_poly 82 = .ok (.ifCond .le 21, 3) := by decide +kernel
theorem dX10_poly_85 : decode cX10_poly 85 = .ok (.aload_n 0, 1) := by decide +kernel
theorem dX10_poly_86 : decode cX10_poly 86 = .ok (.getfield 134, 3) := by decide +kernel
theorem dX10_poly_89 : decode cX10_poly 89 = .ok (.ifCond .ne 14, 3) := by decide +kernel
theorem dX10_poly_92 : decode cX10_poly 92 = .ok (.aload_n 0, 1) := by decide +kernel
theorem dX10_poly_93 : decode cX10_poly 93 = .ok (.iload_n 2, 1) := by decide +kernel
theorem dX10_poly_94 : decode cX10_poly 94 = .ok (.invokevirtual 320, 3) := by decide +kernel
theorem dX10_poly_97 : decode cX10_poly 97 = .ok (.iinc 3 (-1), 3) := by decide +kernel
theorem dX10_poly_100 : decode cX10_poly 100 = .ok (.goto (-19), 3) := by decide +kernel
theorem dX10_poly_103 : decode cX10_poly 103 = .ok (.aload_n 0, 1) := by decide +kernel
theorem dX10_poly_104 : decode cX10_poly 104 = .ok (.getfield 134, 3) := by decide +kernel
theorem dX10_poly_107 : decode cX10_poly 107 = .ok (.ifCond .ne 23, 3) := by decide +kernel
theorem dX10_poly_110 : decode cX10_poly 110 = .ok (.aload_n 0, 1) := by decide +kernel
theorem dX10_poly_111 : decode cX10_poly 111 = .ok (.dup, 1) := by decide +kernel
theorem dX10_poly_112 : decode cX10_poly 112 = .ok (.getfield 304, 3) := by decide +kernel
theorem dX10_poly_115 : decode cX10_poly 115 = .ok (.iconst 1, 1) := by decide +kernel
theorem dX10_poly_116 : decode cX10_poly 116 = .ok (.isub, 1) := by decide +kernel
theorem dX10_poly_117 : decode cX10_poly 117 = .ok (.putfield 304, 3) := by decide +kernel
theorem dX10_poly_120 : decode cX10_poly 120 = .ok (.aload_n 0, 1) := by decide +kernel
theorem dX10_poly_121 : decode cX10_poly 121 = .ok (.iload_n 2, 1) := by decide +kernel
theorem dX10_poly_122 : decode cX10_poly 122 = .ok (.invokevirtual 323, 3) := by decide +kernel
theorem dX10_poly_125 : decode cX10_poly 125 = .ok (.aload_n 0, 1) := by decide +kernel
theorem dX10_poly_126 : decode cX10_poly 126 = .ok (.iload_n 1, 1) := by decide +kernel
theorem dX10_poly_127 : decode cX10_poly 127 = .ok (.invokevirtual 326, 3) := by decide +kernel
theorem dX10_poly_130 : decode cX10_poly 130 = .ok (.goto (-70), 3) := by decide +kernel
theorem dX10_poly_133 : decode cX10_poly 133 = .ok (.aload_n 0, 1) := by decide +kernel
theorem dX10_poly_134 : decode cX10_poly 134 = .ok (.iload_n 1, 1) := by decide +kernel
theorem dX10_poly_135 : decode cX10_poly 135 = .ok (.invokevirtual 329, 3) := by decide +kernel
theorem dX10_poly_138 : decode cX10_poly 138 = .ok (.aload_n 0, 1) := by decide +kernel
theorem dX10_poly_139 : decode cX10_poly 139 = .ok (.iconst 3, 1) := by decide +kernel
theorem dX10_poly_140 : decode cX10_poly 140 = .ok (.invokevirtual 275, 3) := by decide +kernel
theorem dX10_poly_143 : decode cX10_poly 143 = .ok (.ireturn, 1) := by decide +kernel
theorem dX10_plan_0 : decode cX10_plan 0 = .ok (.aload_n 0, 1) := by decide +kernel
theorem dX10_plan_1 : decode cX10_plan 1 = .ok (.iload_n 1, 1) := by decide +kernel
theorem dX10_plan_2 : decode cX10_plan 2 = .ok (.iconst 2, 1) := by decide +kernel
theorem dX10_plan_3 : decode cX10_plan 3 = .ok (.bipush 8, 2) := by decide +kernel
theorem dX10_plan_5 : decode cX10_plan 5 = .ok (.invokestatic 193, 3) := by decide +kernel
theorem dX10_plan_8 : decode cX10_plan 8 = .ok (.ifCond .eq 7, 3) := by decide +kernel
theorem dX10_plan_11 : decode cX10_plan 11 = .ok (.iconst 0, 1) := by decide +kernel
theorem dX10_plan_12 : decode cX10_plan 12 = .ok (.goto 4, 3) := by decide +kernel
theorem dX10_plan_15 : decode cX10_plan 15 = .ok (.iconst 1, 1) := by decide +kernel
theorem dX10_plan_16 : decode cX10_plan 16 = .ok (.putfield 125, 3) := by decide +kernel
theorem dX10_plan_19 : decode cX10_plan 19 = .ok (.aload_n 0, 1) := by decide +kernel
theorem dX10_plan_20 : decode cX10_plan 20 = .ok (.getfield 125, 3) := by decide +kernel
theorem dX10_plan_23 : decode cX10_plan 23 = .ok (.ifCond .le 5, 3) := by decide +kernel
theorem dX10_plan_26 : decode cX10_plan 26 = .ok (.iconst 0, 1) := by decide +kernel
theorem dX10_plan_27 : decode cX10_plan 27 = .ok (.ireturn, 1) := by decide +kernel
theorem dX10_plan_28 : decode cX10_plan 28 = .ok (.aload_n 0, 1) := by decide +kernel
theorem dX10_plan_29 : decode cX10_plan 29 = .ok (.getfield 200, 3) := by decide +kernel
theorem dX10_plan_32 : decode cX10_plan 32 = .ok (.istore_n 2, 1) := by decide +kernel
theorem dX10_plan_33 : decode cX10_plan 33 = .ok (.iconst 0, 1) := by decide +kernel
theorem dX10_plan_34 : decode cX10_plan 34 = .ok (.istore_n 3, 1) := by decide +kernel
theorem dX10_plan_35 : decode cX10_plan 35 = .ok (.iload_n 3, 1) := by decide +kernel
theorem dX10_plan_36 : decode cX10_plan 36 = .ok (.iload_n 2, 1) := by decide +kernel
theorem dX10_plan_37 : decode cX10_plan 37 = .ok (.if_icmp .ge 26, 3) := by decide +kernel
theorem dX10_plan_40 : decode cX10_plan 40 = .ok (.aload_n 0, 1) := by decide +kernel
theorem dX10_plan_41 : decode cX10_plan 41 = .ok (.getfield 99, 3) := by decide +kernel
theorem dX10_plan_44 : decode cX10_plan 44 = .ok (.iload_n 3, 1) := by decide +kernel
theorem dX10_plan_45 : decode cX10_plan 45 = .ok (.aload_n 0, 1) := by decide +kernel
theorem dX10_plan_46 : decode cX10_plan 46 = .ok (.getfield 30, 3) := by decide +kernel
theorem dX10_plan_49 : decode cX10_plan 49 = .ok (.aload_n 0, 1) := by decide +kernel
theorem dX10_plan_50 : decode cX10_plan 50 = .ok (.getfield 36, 3) := by decide +kernel
theorem dX10_plan_53 : decode cX10_plan 53 = .ok (.iload_n 3, 1) := by decide +kernel
theorem dX10_plan_54 : decode cX10_plan 54 = .ok (.iaload, 1) := by decide +kernel
theorem dX10_plan_55 : decode cX10_plan 55 = .ok (.iaload, 1) := by decide +kernel
theorem dX10_plan_56 : decode cX10_plan 56 = .ok (.iastore, 1) := by decide +kernel
theorem dX10_plan_57 : decode cX10_plan 57 = .ok (.iinc 3 1, 3) := by decide +kernel
theorem dX10_plan_60 : decode cX10_plan 60 = .ok (.goto (-25), 3) := by decide +kernel
theorem dX10_plan_63 : decode cX10_plan 63 = .ok (.iconst 0, 1) := by decide +kernel
theorem dX10_plan_64 : decode cX10_plan 64 = .ok (.istore_n 3, 1) := by decide +kernel
theorem dX10_plan_65 : decode cX10_plan 65 = .ok (.iload_n 2, 1) := by decide +kernel
theorem dX10_plan_66 : decode cX10_plan 66 = .ok (.iconst 1, 1) := by decide +kernel
theorem dX10_plan_67 : decode cX10_plan 67 = .ok (.if_icmp .le 126, 3) := by decide +kernel
theorem dX10_plan_70 : decode cX10_plan 70 = .ok (.iconst 0, 1) := by decide +kernel
theorem dX10_plan_71 : decode cX10_plan 71 = .ok (.istore 4, 2) := by decide +kernel
theorem dX10_plan_73 : decode cX10_plan 73 = .ok (.iconst 0, 1) := by decide +kernel
theorem dX10_plan_74 : decode cX10_plan 74 = .ok (.istore 5, 2) := by decide +kernel
theorem dX10_plan_76 : decode cX10_plan 76 = .ok (.iload 5, 2) := by decide +kernel
theorem dX10_plan_78 : decode cX10_plan 78 = .ok (.iload_n 2, 1) := by decide +kernel
theorem dX10_plan_79 : decode cX10_plan 79 = .ok (.if_icmp .ge 108, 3) := by decide +kernel
theorem dX10_plan_82 : decode cX10_plan 82 = .ok (.iload_n 2, 1) := by decide +kernel
theorem dX10_plan_83 : decode cX10_plan 83 = .ok (.iload 5, 2) := by decide +kernel
theorem dX10_plan_85 : decode cX10_plan 85 = .ok (.isub, 1) := by decide +kernel
theorem dX10_plan_86 : decode cX10_plan 86 = .ok (.iload_n 1, 1) := by decide +kernel
theorem dX10_plan_87 : decode cX10_plan 87 = .ok (.if_icmp .ge 10, 3) := by decide +kernel
theorem dX10_plan_90 : decode cX10_plan 90 = .ok (.iload_n 2, 1) := by decide +kernel
theorem dX10_plan_91 : decode cX10_plan 91 = .ok (.iload 5, 2) := by decide +kernel
theorem dX10_plan_93 : decode cX10_plan 93 = .ok (.isub, 1) := by decide +kernel
theorem dX10_plan_94 : decode cX10_plan 94 = .ok (.goto 4, 3) := by decide +kernel
theorem dX10_plan_97 : decode cX10_plan 97 = .ok (.iload_n 1, 1) := by decide +kernel
theorem dX10_plan_98 : decode cX10_plan 98 = .ok (.istore 6, 2) := by decide +kernel
theorem dX10_plan_100 : decode cX10_plan 100 = .ok (.iconst 0, 1) := by decide +kernel
theorem dX10_plan_101 : decode cX10_plan 101 = .ok (.istore 7, 2) := by decide +kernel
theorem dX10_plan_103 : decode cX10_plan 103 = .ok (.iconst 0, 1) := by decide +kernel
theorem dX10_plan_104 : decode cX10_plan 104 = .ok (.istore 8, 2) := by decide +kernel
theorem dX10_plan_106 : decode cX10_plan 106 = .ok (.iload 8, 2) := by decide +kernel
theorem dX10_plan_108 : decode cX10_plan 108 = .ok (.iload 6, 2) := by decide +kernel
theorem dX10_plan_110 : decode cX10_plan 110 = .ok (.if_icmp .ge 55, 3) := by decide +kernel
theorem dX10_plan_113 : decode cX10_plan 113 = .ok (.aload_n 0, 1) := by decide +kernel
theorem dX10_plan_114 : decode cX10_plan 114 = .ok (.getfield 99, 3) := by decide +kernel
theorem dX10_plan_117 : decode cX10_plan 117 = .ok (.iload 5, 2) := by decide +kernel
theorem dX10_plan_119 : decode cX10_plan 119 = .ok (.iload 8, 2) := by decide +kernel
theorem dX10_plan_121 : decode cX10_plan 121 = .ok (.iadd, 1) := by decide +kernel
theorem dX10_plan_122 : decode cX10_plan 122 = .ok (.iaload, 1) := by decide +kernel
theorem dX10_plan_123 : decode cX10_plan 123 = .ok (.istore 9, 2) := by decide +kernel
theorem dX10_plan_125 : decode cX10_plan 125 = .ok (.iload 7, 2) := by decide +kernel
theorem dX10_plan_127 : decode cX10_plan 127 = .ok (.iload 9, 2) := by decide +kernel
theorem dX10_plan_129 : decode cX10_plan 129 = .ok (.iadd, 1) := by decide +kernel
theorem dX10_plan_130 : decode cX10_plan 130 = .ok (.istore 7, 2) := by decide +kernel
theorem dX10_plan_132 : decode cX10_plan 132 = .ok (.iload_n 3, 1) := by decide +kernel
theorem dX10_plan_133 : decode cX10_plan 133 = .ok (.iload 6, 2) := by decide +kernel
theorem dX10_plan_135 : decode cX10_plan 135 = .ok (.iconst 1, 1) := by decide +kernel
theorem dX10_plan_136 : decode cX10_plan 136 = .ok (.if_icmp .le 20, 3) := by decide +kernel
theorem dX10_plan_139 : decode cX10_plan 139 = .ok (.iload 9, 2) := by decide +kernel
theorem dX10_plan_141 : decode cX10_plan 141 = .ok (.aload_n 0, 1) := by decide +kernel
theorem dX10_plan_142 : decode cX10_plan 142 = .ok (.invokevirtual 179, 3) := by decide +kernel
theorem dX10_plan_145 : decode cX10_plan 145 = .ok (.iadd, 1) := by decide +kernel
theorem dX10_plan_146 : decode cX10_plan 146 = .ok (.iconst 1, 1) := by decide +kernel
theorem dX10_plan_147 : decode cX10_plan 147 = .ok (.isub, 1) := by decide +kernel
theorem dX10_plan_148 : decode cX10_plan 148 = .ok (.aload_n 0, 1) := by decide +kernel
theorem dX10_plan_149 : decode cX10_plan 149 = .ok (.invokevirtual 179, 3) := by decide +kernel
theorem dX10_plan_152 : decode cX10_plan 152 = .ok (.idiv, 1) := by decide +kernel
theorem dX10_plan_153 : decode cX10_plan 153 = .ok (.goto 4, 3) := by decide +kernel
theorem dX10_plan_156 : decode cX10_plan 156 = .ok (.iconst 0, 1) := by decide +kernel
theorem dX10_plan_157 : decode cX10_plan 157 = .ok (.iadd, 1) := by decide +kernel
theorem dX10_plan_158 : decode cX10_plan 158 = .ok (.istore_n 3, 1) := by decide +kernel
theorem dX10_plan_159 : decode cX10_plan 159 = .ok (.iinc 8 1, 3) := by decide +kernel
theorem dX10_plan_162 : decode cX10_plan 162 = .ok (.goto (-56), 3) := by decide +kernel
theorem dX10_plan_165 : decode cX10_plan 165 = .ok (.aload_n 0, 1) := by decide +kernel
theorem dX10_plan_166 : decode cX10_plan 166 = .ok (.getfield 99, 3) := by decide +kernel
theorem dX10_plan_169 : decode cX10_plan 169 = .ok (.iload 4, 2) := by decide +kernel
theorem dX10_plan_171 : decode cX10_plan 171 = .ok (.iload 7, 2) := by decide +kernel
theorem dX10_plan_173 : decode cX10_plan 173 = .ok (.iastore, 1) := by decide +kernel
theorem dX10_plan_174 : decode cX10_plan 174 = .ok (.iinc 4 1, 3) := by decide +kernel
theorem dX10_plan_177 : decode cX10_plan 177 = .ok (.iload 5, 2) := by decide +kernel
theorem dX10_plan_179 : decode cX10_plan 179 = .ok (.iload 6, 2) := by decide +kernel
theorem dX10_plan_181 : decode cX10_plan 181 = .ok (.iadd, 1) := by decide +kernel
theorem dX10_plan_182 : decode cX10_plan 182 = .ok (.istore 5, 2) := by decide +kernel
theorem dX10_plan_184 : decode cX10_plan 184 = .ok (.goto (-108), 3) := by decide +kernel
theorem dX10_plan_187 : decode cX10_plan 187 = .ok (.iload 4, 2) := by decide +kernel
theorem dX10_plan_189 : decode cX10_plan 189 = .ok (.istore_n 2, 1) := by decide +kernel
theorem dX10_plan_190 : decode cX10_plan 190 = .ok (.goto (-125), 3) := by decide +kernel
theorem dX10_plan_193 : decode cX10_plan 193 = .ok (.iload_n 3, 1) := by decide +kernel
theorem dX10_plan_194 : decode cX10_plan 194 = .ok (.ireturn, 1) := by decide +kernel
theorem dX10_runs_0 : decode cX10_runs 0 = .ok (.aload_n 0, 1) := by decide +kernel
theorem dX10_runs_1 : decode cX10_runs 1 = .ok (.iconst 0, 1) := by decide +kernel
theorem dX10_runs_2 : decode cX10_runs 2 = .ok (.putfield 125, 3) := by decide +kernel
theorem dX10_runs_5 : decode cX10_runs 5 = .ok (.aload_n 0, 1) := by decide +kernel
theorem dX10_runs_6 : decode cX10_runs 6 = .ok (.getfield 200, 3) := by decide +kernel
theorem dX10_runs_9 : decode cX10_runs 9 = .ok (.ireturn, 1) := by decide +kernel
theorem dX10_records_0 : decode cX10_records 0 = .ok (.aload_n 0, 1) := by decide +kernel
theorem dX10_records_1 : decode cX10_records 1 = .ok (.iload_n 1, 1) := by decide +kernel
theorem dX10_records_2 : decode cX10_records 2 = .ok (.iconst (-1), 1) := by decide +kernel
theorem dX10_records_3 : decode cX10_records 3 = .ok (.aload_n 0, 1) := by decide +kernel
theorem dX10_records_4 : decode cX10_records 4 = .ok (.getfield 200, 3) := by decide +kernel
theorem dX10_records_7 : decode cX10_records 7 = .ok (.iconst 1, 1) := by decide +kernel
theorem dX10_records_8 : decode cX10_records 8 = .ok (.isub, 1) := by decide +kernel
theorem dX10_records_9 : decode cX10_records 9 = .ok (.invokestatic 193, 3) := by decide +kernel
theorem dX10_records_12 : decode cX10_records 12 = .ok (.ifCond .eq 7, 3) := by decide +kernel
theorem dX10_records_15 : decode cX10_records 15 = .ok (.iconst 0, 1) := by decide +kernel
theorem dX10_records_16 : decode cX10_records 16 = .ok (.goto 4, 3) := by decide +kernel
theorem dX10_records_19 : decode cX10_records 19 = .ok (.iconst 1, 1) := by decide +kernel
theorem dX10_records_20 : decode cX10_records 20 = .ok (.putfield 125, 3) := by decide +kernel
theorem dX10_records_23 : decode cX10_records 23 = .ok (.aload_n 0, 1) := by decide +kernel
theorem dX10_records_24 : decode cX10_records 24 = .ok (.getfield 125, 3) := by decide +kernel
theorem dX10_records_27 : decode cX10_records 27 = .ok (.ifCond .le 5, 3) := by decide +kernel
theorem dX10_records_30 : decode cX10_records 30 = .ok (.iconst 0, 1) := by decide +kernel
theorem dX10_records_31 : decode cX10_records 31 = .ok (.ireturn, 1) := by decide +kernel
theorem dX10_records_32 : decode cX10_records 32 = .ok (.iload_n 1, 1) := by decide +kernel
theorem dX10_records_33 : decode cX10_records 33 = .ok (.iconst (-1), 1) := by decide +kernel
theorem dX10_records_34 : decode cX10_records 34 = .ok (.if_icmp .ne 17, 3) := by decide +kernel
theorem dX10_records_37 : decode cX10_records 37 = .ok (.aload_n 0, 1) := by decide +kernel
theorem dX10_records_38 : decode cX10_records 38 = .ok (.getfield 30, 3) := by decide +kernel
theorem dX10_records_41 : decode cX10_records 41 = .ok (.iconst 0, 1) := by decide +kernel
theorem dX10_records_42 : decode cX10_records 42 = .ok (.iaload, 1) := by decide +kernel
theorem dX10_records_43 : decode cX10_records 43 = .ok (.aload_n 0, 1) := by decide +kernel
theorem dX10_records_44 : decode cX10_records 44 = .ok (.getfield 203, 3) := by decide +kernel
theorem dX10_records_47 : decode cX10_records 47 = .ok (.iadd, 1) := by decide +kernel
theorem dX10_records_48 : decode cX10_records 48 = .ok (.goto 14, 3) := by decide +kernel
theorem dX10_records_51 : decode cX10_records 51 = .ok (.aload_n 0, 1) := by decide +kernel
theorem dX10_records_52 : decode cX10_records 52 = .ok (.getfield 30, 3) := by decide +kernel
theorem dX10_records_55 : decode cX10_records 55 = .ok (.aload_n 0, 1) := by decide +kernel
theorem dX10_records_56 : decode cX10_records 56 = .ok (.getfield 36, 3) := by decide +kernel
theorem dX10_records_59 : decode cX10_records 59 = .ok (.iload_n 1, 1) := by decide +kernel
theorem dX10_records_60 : decode cX10_records 60 = .ok (.iaload, 1) := by decide +kernel
theorem dX10_records_61 : decode cX10_records 61 = .ok (.iaload, 1) := by decide +kernel
theorem dX10_records_62 : decode cX10_records 62 = .ok (.ireturn, 1) := by decide +kernel
theorem dX10_block_0 : decode cX10_block 0 = .ok (.aload_n 0, 1) := by decide +kernel
theorem dX10_block_1 : decode cX10_block 1 = .ok (.iload_n 1, 1) := by decide +kernel
theorem dX10_block_2 : decode cX10_block 2 = .ok (.iconst (-1), 1) := by decide +kernel
theorem dX10_block_3 : decode cX10_block 3 = .ok (.aload_n 0, 1) := by decide +kernel
theorem dX10_block_4 : decode cX10_block 4 = .ok (.getfield 200, 3) := by decide +kernel
theorem dX10_block_7 : decode cX10_block 7 = .ok (.iconst 1, 1) := by decide +kernel
theorem dX10_block_8 : decode cX10_block 8 = .ok (.isub, 1) := by decide +kernel
theorem dX10_block_9 : decode cX10_block 9 = .ok (.invokestatic 193, 3) := by decide +kernel
theorem dX10_block_12 : decode cX10_block 12 = .ok (.ifCond .eq 18, 3) := by decide +kernel
theorem dX10_block_15 : decode cX10_block 15 = .ok (.iload_n 2, 1) := by decide +kernel
theorem dX10_block_16 : decode cX10_block 16 = .ok (.iconst 0, 1) := by decide +kernel
theorem dX10_block_17 : decode cX10_block 17 = .ok (.sipush 199, 3) := by decide +kernel
theorem dX10_block_20 : decode cX10_block 20 = .ok (.invokestatic 193, 3) := by decide +kernel
theorem dX10_block_23 : decode cX10_block 23 = .ok (.ifCond .eq 7, 3) := by decide +kernel
theorem dX10_block_26 : decode cX10_block 26 = .ok (.iconst 0, 1) := by decide +kernel
theorem dX10_block_27 : decode cX10_block 27 = .ok (.goto 4, 3) := by decide +kernel
theorem dX10_block_30 : decode cX10_block 30 = .ok (.iconst 1, 1) := by decide +kernel
theorem dX10_block_31 : decode cX10_block 31 = .ok (.putfield 125, 3) := by decide +kernel
theorem dX10_block_34 : decode cX10_block 34 = .ok (.aload_n 0, 1) := by decide +kernel
theorem dX10_block_35 : decode cX10_block 35 = .ok (.getfield 125, 3) := by decide +kernel
theorem dX10_block_38 : decode cX10_block 38 = .ok (.ifCond .le 5, 3) := by decide +kernel
theorem dX10_block_41 : decode cX10_block 41 = .ok (.iconst 0, 1) := by decide +kernel
theorem dX10_block_42 : decode cX10_block 42 = .ok (.ireturn, 1) := by decide +kernel
theorem dX10_block_43 : decode cX10_block 43 = .ok (.aload_n 0, 1) := by decide +kernel
theorem dX10_block_44 : decode cX10_block 44 = .ok (.iload_n 1, 1) := by decide +kernel
theorem dX10_block_45 : decode cX10_block 45 = .ok (.iconst (-1), 1) := by decide +kernel
theorem dX10_block_46 : decode cX10_block 46 = .ok (.if_icmp .ne 7, 3) := by decide +kernel
theorem dX10_block_49 : decode cX10_block 49 = .ok (.iconst 0, 1) := by decide +kernel
theorem dX10_block_50 : decode cX10_block 50 = .ok (.goto 9, 3) := by decide +kernel
theorem dX10_block_53 : decode cX10_block 53 = .ok (.aload_n 0, 1) := by decide +kernel
theorem dX10_block_54 : decode cX10_block 54 = .ok (.getfield 36, 3) := by decide +kernel
theorem dX10_block_57 : decode cX10_block 57 = .ok (.iload_n 1, 1) := by decide +kernel
theorem dX10_block_58 : decode cX10_block 58 = .ok (.iaload, 1) := by decide +kernel
theorem dX10_block_59 : decode cX10_block 59 = .ok (.iload_n 2, 1) := by decide +kernel
theorem dX10_block_60 : decode cX10_block 60 = .ok (.invokevirtual 332, 3) := by decide +kernel
theorem dX10_block_63 : decode cX10_block 63 = .ok (.istore_n 3, 1) := by decide +kernel
theorem dX10_block_64 : decode cX10_block 64 = .ok (.aload_n 0, 1) := by decide +kernel
theorem dX10_block_65 : decode cX10_block 65 = .ok (.iload_n 3, 1) := by decide +kernel
theorem dX10_block_66 : decode cX10_block 66 = .ok (.iconst (-1), 1) := by decide +kernel
theorem dX10_block_67 : decode cX10_block 67 = .ok (.if_icmp .ne 7, 3) := by decide +kernel
theorem dX10_block_70 : decode cX10_block 70 = .ok (.iconst 1, 1) := by decide +kernel
theorem dX10_block_71 : decode cX10_block 71 = .ok (.goto 4, 3) := by decide +kernel
theorem dX10_block_74 : decode cX10_block 74 = .ok (.iconst 0, 1) := by decide +kernel
theorem dX10_block_75 : decode cX10_block 75 = .ok (.putfield 125, 3) := by decide +kernel
theorem dX10_block_78 : decode cX10_block 78 = .ok (.iload_n 3, 1) := by decide +kernel
theorem dX10_block_79 : decode cX10_block 79 = .ok (.ireturn, 1) := by decide +kernel
theorem dX10_look_0 : decode cX10_look 0 = .ok (.aload_n 0, 1) := by decide +kernel
theorem dX10_look_1 : decode cX10_look 1 = .ok (.aload_n 0, 1) := by decide +kernel
theorem dX10_look_2 : decode cX10_look 2 = .ok (.getfield 36, 3) := by decide +kernel
theorem dX10_look_5 : decode cX10_look 5 = .ok (.iload_n 1, 1) := by decide +kernel
theorem dX10_look_6 : decode cX10_look 6 = .ok (.iaload, 1) := by decide +kernel
theorem dX10_look_7 : decode cX10_look 7 = .ok (.iload_n 2, 1) := by decide +kernel
theorem dX10_look_8 : decode cX10_look 8 = .ok (.aload_n 0, 1) := by decide +kernel
theorem dX10_look_9 : decode cX10_look 9 = .ok (.invokevirtual 179, 3) := by decide +kernel
theorem dX10_look_12 : decode cX10_look 12 = .ok (.idiv, 1) := by decide +kernel
theorem dX10_look_13 : decode cX10_look 13 = .ok (.invokevirtual 332, 3) := by decide +kernel
theorem dX10_look_16 : decode cX10_look 16 = .ok (.istore_n 3, 1) := by decide +kernel
theorem dX10_look_17 : decode cX10_look 17 = .ok (.iload_n 3, 1) := by decide +kernel
theorem dX10_look_18 : decode cX10_look 18 = .ok (.aload_n 0, 1) := by decide +kernel
theorem dX10_look_19 : decode cX10_look 19 = .ok (.getfield 119, 3) := by decide +kernel
theorem dX10_look_22 : decode cX10_look 22 = .ok (.if_icmp .eq 18, 3) := by decide +kernel
theorem dX10_look_25 : decode cX10_look 25 = .ok (.aload_n 0, 1) := by decide +kernel
theorem dX10_look_26 : decode cX10_look 26 = .ok (.dup, 1) := by decide +kernel
theorem dX10_look_27 : decode cX10_look 27 = .ok (.getfield 137, 3) := by decide +kernel
theorem dX10_look_30 : decode cX10_look 30 = .ok (.iconst 1, 1) := by decide +kernel
theorem dX10_look_31 : decode cX10_look 31 = .ok (.iadd, 1) := by decide +kernel
theorem dX10_look_32 : decode cX10_look 32 = .ok (.putfield 137, 3) := by decide +kernel
theorem dX10_look_35 : decode cX10_look 35 = .ok (.aload_n 0, 1) := by decide +kernel
theorem dX10_look_36 : decode cX10_look 36 = .ok (.iload_n 3, 1) := by decide +kernel
theorem dX10_look_37 : decode cX10_look 37 = .ok (.invokevirtual 140, 3) := by decide +kernel
theorem dX10_look_40 : decode cX10_look 40 = .ok (.bipush 64, 2) := by decide +kernel
theorem dX10_look_42 : decode cX10_look 42 = .ok (.iload_n 3, 1) := by decide +kernel
theorem dX10_look_43 : decode cX10_look 43 = .ok (.imul, 1) := by decide +kernel
theorem dX10_look_44 : decode cX10_look 44 = .ok (.iload_n 2, 1) := by decide +kernel
theorem dX10_look_45 : decode cX10_look 45 = .ok (.aload_n 0, 1) := by decide +kernel
theorem dX10_look_46 : decode cX10_look 46 = .ok (.invokevirtual 179, 3) := by decide +kernel
theorem dX10_look_49 : decode cX10_look 49 = .ok (.irem, 1) := by decide +kernel
theorem dX10_look_50 : decode cX10_look 50 = .ok (.aload_n 0, 1) := by decide +kernel
theorem dX10_look_51 : decode cX10_look 51 = .ok (.getfield 116, 3) := by decide +kernel
theorem dX10_look_54 : decode cX10_look 54 = .ok (.iconst 1, 1) := by decide +kernel
theorem dX10_look_55 : decode cX10_look 55 = .ok (.iadd, 1) := by decide +kernel
theorem dX10_look_56 : decode cX10_look 56 = .ok (.imul, 1) := by decide +kernel
theorem dX10_look_57 : decode cX10_look 57 = .ok (.iadd, 1) := by decide +kernel
theorem dX10_look_58 : decode cX10_look 58 = .ok (.ireturn, 1) := by decide +kernel
theorem dX10_told_0 : decode cX10_told 0 = .ok (.iload_n 1, 1) := by decide +kernel
theorem dX10_told_1 : decode cX10_told 1 = .ok (.iconst 0, 1) := by decide +kernel
theorem dX10_told_2 : decode cX10_told 2 = .ok (.aload_n 0, 1) := by decide +kernel
theorem dX10_told_3 : decode cX10_told 3 = .ok (.getfield 200, 3) := by decide +kernel
theorem dX10_told_6 : decode cX10_told 6 = .ok (.iconst 1, 1) := by decide +kernel
theorem dX10_told_7 : decode cX10_told 7 = .ok (.isub, 1) := by decide +kernel
theorem dX10_told_8 : decode cX10_told 8 = .ok (.invokestatic 193, 3) := by decide +kernel
theorem dX10_told_11 : decode cX10_told 11 = .ok (.ifCond .eq 19, 3) := by decide +kernel
theorem dX10_told_14 : decode cX10_told 14 = .ok (.iload_n 3, 1) := by decide +kernel
theorem dX10_told_15 : decode cX10_told 15 = .ok (.iconst 0, 1) := by decide +kernel
theorem dX10_told_16 : decode cX10_told 16 = .ok (.aload_n 0, 1) := by decide +kernel
theorem dX10_told_17 : decode cX10_told 17 = .ok (.getfield 116, 3) := by decide +kernel
theorem dX10_told_20 : decode cX10_told 20 = .ok (.invokestatic 193, 3) := by decide +kernel
theorem dX10_told_23 : decode cX10_told 23 = .ok (.ifCond .eq 7, 3) := by decide +kernel
theorem dX10_told_26 : decode cX10_told 26 = .ok (.iconst 1, 1) := by decide +kernel
theorem dX10_told_27 : decode cX10_told 27 = .ok (.goto 4, 3) := by decide +kernel
theorem dX10_told_30 : decode cX10_told 30 = .ok (.iconst 0, 1) := by decide +kernel
theorem dX10_told_31 : decode cX10_told 31 = .ok (.istore 4, 2) := by decide +kernel
theorem dX10_told_33 : decode cX10_told 33 = .ok (.iload 4, 2) := by decide +kernel
theorem dX10_told_35 : decode cX10_told 35 = .ok (.ifCond .eq 28, 3) := by decide +kernel
theorem dX10_told_38 : decode cX10_told 38 = .ok (.iload_n 2, 1) := by decide +kernel
theorem dX10_told_39 : decode cX10_told 39 = .ok (.iconst 0, 1) := by decide +kernel
theorem dX10_told_40 : decode cX10_told 40 = .ok (.aload_n 0, 1) := by decide +kernel
theorem dX10_told_41 : decode cX10_told 41 = .ok (.getfield 30, 3) := by decide +kernel
theorem dX10_told_44 : decode cX10_told 44 = .ok (.aload_n 0, 1) := by decide +kernel
theorem dX10_told_45 : decode cX10_told 45 = .ok (.getfield 36, 3) := by decide +kernel
theorem dX10_told_48 : decode cX10_told 48 = .ok (.iload_n 1, 1) := by decide +kernel
theorem dX10_told_49 : decode cX10_told 49 = .ok (.iaload, 1) := by decide +kernel
theorem dX10_told_50 : decode cX10_told 50 = .ok (.iaload, 1) := by decide +kernel
theorem dX10_told_51 : decode cX10_told 51 = .ok (.iconst 1, 1) := by decide +kernel
theorem dX10_told_52 : decode cX10_told 52 = .ok (.isub, 1) := by decide +kernel
theorem dX10_told_53 : decode cX10_told 53 = .ok (.invokestatic 193, 3) := by decide +kernel
theorem dX10_told_56 : decode cX10_told 56 = .ok (.ifCond .eq 7, 3) := by decide +kernel
theorem dX10_told_59 : decode cX10_told 59 = .ok (.iconst 1, 1) := by decide +kernel
theorem dX10_told_60 : decode cX10_told 60 = .ok (.goto 4, 3) := by decide +kernel
theorem dX10_told_63 : decode cX10_told 63 = .ok (.iconst 0, 1) := by decide +kernel
theorem dX10_told_64 : decode cX10_told 64 = .ok (.istore 4, 2) := by decide +kernel
theorem dX10_told_66 : decode cX10_told 66 = .ok (.aload_n 0, 1) := by decide +kernel
theorem dX10_told_67 : decode cX10_told 67 = .ok (.iload 4, 2) := by decide +kernel
theorem dX10_told_69 : decode cX10_told 69 = .ok (.ifCond .ne 7, 3) := by decide +kernel
theorem dX10_told_72 : decode cX10_told 72 = .ok (.iconst 1, 1) := by decide +kernel
theorem dX10_told_73 : decode cX10_told 73 = .ok (.goto 15, 3) := by decide +kernel
theorem dX10_told_76 : decode cX10_told 76 = .ok (.aload_n 0, 1) := by decide +kernel
theorem dX10_told_77 : decode cX10_told 77 = .ok (.getfield 197, 3) := by decide +kernel
theorem dX10_told_80 : decode cX10_told 80 = .ok (.ifCond .eq 7, 3) := by decide +kernel
theorem dX10_told_83 : decode cX10_told 83 = .ok (.iconst 2, 1) := by decide +kernel
theorem dX10_told_84 : decode cX10_told 84 = .ok (.goto 4, 3) := by decide +kernel
theorem dX10_told_87 : decode cX10_told 87 = .ok (.iconst 0, 1) := by decide +kernel
theorem dX10_told_88 : decode cX10_told 88 = .ok (.putfield 125, 3) := by decide +kernel
theorem dX10_told_91 : decode cX10_told 91 = .ok (.aload_n 0, 1) := by decide +kernel
theorem dX10_told_92 : decode cX10_told 92 = .ok (.getfield 125, 3) := by decide +kernel
theorem dX10_told_95 : decode cX10_told 95 = .ok (.ifCond .le 7, 3) := by decide +kernel
theorem dX10_told_98 : decode cX10_told 98 = .ok (.lconst 0, 1) := by decide +kernel
theorem dX10_told_99 : decode cX10_told 99 = .ok (.goto 16, 3) := by decide +kernel
theorem dX10_told_102 : decode cX10_told 102 = .ok (.aload_n 0, 1) := by decide +kernel
theorem dX10_told_103 : decode cX10_told 103 = .ok (.getfield 7, 3) := by decide +kernel
theorem dX10_told_106 : decode cX10_told 106 = .ok (.aload_n 0, 1) := by decide +kernel
theorem dX10_told_107 : decode cX10_told 107 = .ok (.iload_n 1, 1) := by decide +kernel
theorem dX10_told_108 : decode cX10_told 108 = .ok (.iload_n 2, 1) := by decide +kernel
theorem dX10_told_109 : decode cX10_told 109 = .ok (.invokevirtual 336, 3) := by decide +kernel
theorem dX10_told_112 : decode cX10_told 112 = .ok (.iload_n 3, 1) := by decide +kernel
theorem dX10_told_113 : decode cX10_told 113 = .ok (.iadd, 1) := by decide +kernel
theorem dX10_told_114 : decode cX10_told 114 = .ok (.laload, 1) := by decide +kernel
theorem dX10_told_115 : decode cX10_told 115 = .ok (.lreturn, 1) := by decide +kernel
theorem dX10_rank_0 : decode cX10_rank 0 = .ok (.aload_n 0, 1) := by decide +kernel
theorem dX10_rank_1 : decode cX10_rank 1 = .ok (.iload_n 1, 1) := by decide +kernel
theorem dX10_rank_2 : decode cX10_rank 2 = .ok (.iconst 0, 1) := by decide +kernel
theorem dX10_rank_3 : decode cX10_rank 3 = .ok (.aload_n 0, 1) := by decide +kernel
theorem dX10_rank_4 : decode cX10_rank 4 = .ok (.getfield 200, 3) := by decide +kernel
theorem dX10_rank_7 : decode cX10_rank 7 = .ok (.iconst 1, 1) := by decide +kernel
theorem dX10_rank_8 : decode cX10_rank 8 = .ok (.isub, 1) := by decide +kernel
theorem dX10_rank_9 : decode cX10_rank 9 = .ok (.invokestatic 193, 3) := by decide +kernel
theorem dX10_rank_12 : decode cX10_rank 12 = .ok (.ifCond .ne 7, 3) := by decide +kernel
theorem dX10_rank_15 : decode cX10_rank 15 = .ok (.iconst 1, 1) := by decide +kernel
theorem dX10_rank_16 : decode cX10_rank 16 = .ok (.goto 15, 3) := by decide +kernel
theorem dX10_rank_19 : decode cX10_rank 19 = .ok (.aload_n 0, 1) := by decide +kernel
theorem dX10_rank_20 : decode cX10_rank 20 = .ok (.getfield 197, 3) := by decide +kernel
theorem dX10_rank_23 : decode cX10_rank 23 = .ok (.ifCond .eq 7, 3) := by decide +kernel
theorem dX10_rank_26 : decode cX10_rank 26 = .ok (.iconst 2, 1) := by decide +kernel
theorem dX10_rank_27 : decode cX10_rank 27 = .ok (.goto 4, 3) := by decide +kernel
theorem dX10_rank_30 : decode cX10_rank 30 = .ok (.iconst 0, 1) := by decide +kernel
theorem dX10_rank_31 : decode cX10_rank 31 = .ok (.putfield 125, 3) := by decide +kernel
theorem dX10_rank_34 : decode cX10_rank 34 = .ok (.aload_n 0, 1) := by decide +kernel
theorem dX10_rank_35 : decode cX10_rank 35 = .ok (.getfield 125, 3) := by decide +kernel
theorem dX10_rank_38 : decode cX10_rank 38 = .ok (.ifCond .le 5, 3) := by decide +kernel
theorem dX10_rank_41 : decode cX10_rank 41 = .ok (.iconst 0, 1) := by decide +kernel
theorem dX10_rank_42 : decode cX10_rank 42 = .ok (.ireturn, 1) := by decide +kernel
theorem dX10_rank_43 : decode cX10_rank 43 = .ok (.aload_n 0, 1) := by decide +kernel
theorem dX10_rank_44 : decode cX10_rank 44 = .ok (.getfield 147, 3) := by decide +kernel
theorem dX10_rank_47 : decode cX10_rank 47 = .ok (.ifCond .le 12, 3) := by decide +kernel
theorem dX10_rank_50 : decode cX10_rank 50 = .ok (.aload_n 0, 1) := by decide +kernel
theorem dX10_rank_51 : decode cX10_rank 51 = .ok (.getfield 42, 3) := by decide +kernel
theorem dX10_rank_54 : decode cX10_rank 54 = .ok (.iconst 0, 1) := by decide +kernel
theorem dX10_rank_55 : decode cX10_rank 55 = .ok (.iaload, 1) := by decide +kernel
theorem dX10_rank_56 : decode cX10_rank 56 = .ok (.goto 4, 3) := by decide +kernel
theorem dX10_rank_59 : decode cX10_rank 59 = .ok (.iconst 0, 1) := by decide +kernel
theorem dX10_rank_60 : decode cX10_rank 60 = .ok (.istore 4, 2) := by decide +kernel
theorem dX10_rank_62 : decode cX10_rank 62 = .ok (.aload_n 0, 1) := by decide +kernel
theorem dX10_rank_63 : decode cX10_rank 63 = .ok (.getfield 147, 3) := by decide +kernel
theorem dX10_rank_66 : decode cX10_rank 66 = .ok (.ifCond .le 16, 3) := by decide +kernel
theorem dX10_rank_69 : decode cX10_rank 69 = .ok (.aload_n 0, 1) := by decide +kernel
theorem dX10_rank_70 : decode cX10_rank 70 = .ok (.getfield 45, 3) := by decide +kernel
theorem dX10_rank_73 : decode cX10_rank 73 = .ok (.iconst 0, 1) := by decide +kernel
theorem dX10_rank_74 : decode cX10_rank 74 = .ok (.baload, 1) := by decide +kernel
theorem dX10_rank_75 : decode cX10_rank 75 = .ok (.ifCond .eq 7, 3) := by decide +kernel
theorem dX10_rank_78 : decode cX10_rank 78 = .ok (.iconst 1, 1) := by decide +kernel
theorem dX10_rank_79 : decode cX10_rank 79 = .ok (.goto 4, 3) := by decide +kernel
theorem dX10_rank_82 : decode cX10_rank 82 = .ok (.iconst 0, 1) := by decide +kernel
theorem dX10_rank_83 : decode cX10_rank 83 = .ok (.istore 5, 2) := by decide +kernel
theorem dX10_rank_85 : decode cX10_rank 85 = .ok (.iconst 0, 1) := by decide +kernel
theorem dX10_rank_86 : decode cX10_rank 86 = .ok (.istore 6, 2) := by decide +kernel
theorem dX10_rank_88 : decode cX10_rank 88 = .ok (.aload_n 0, 1) := by decide +kernel
theorem dX10_rank_89 : decode cX10_rank 89 = .ok (.getfield 30, 3) := by decide +kernel
theorem dX10_rank_92 : decode cX10_rank 92 = .ok (.aload_n 0, 1) := by decide +kernel
theorem dX10_rank_93 : decode cX10_rank 93 = .ok (.getfield 36, 3) := by decide +kernel
theorem dX10_rank_96 : decode cX10_rank 96 = .ok (.iload_n 1, 1) := by decide +kernel
theorem dX10_rank_97 : decode cX10_rank 97 = .ok (.iaload, 1) := by decide +kernel
theorem dX10_rank_98 : decode cX10_rank 98 = .ok (.iaload, 1) := by decide +kernel
theorem dX10_rank_99 : decode cX10_rank 99 = .ok (.istore 7, 2) := by decide +kernel
theorem dX10_rank_101 : decode cX10_rank 101 = .ok (.iload 6, 2) := by decide +kernel
theorem dX10_rank_103 : decode cX10_rank 103 = .ok (.iload 7, 2) := by decide +kernel
theorem dX10_rank_105 : decode cX10_rank 105 = .ok (.if_icmp .ge 96, 3) := by decide +kernel
theorem dX10_rank_108 : decode cX10_rank 108 = .ok (.iload 6, 2) := by decide +kernel
theorem dX10_rank_110 : decode cX10_rank 110 = .ok (.iload 7, 2) := by decide +kernel
theorem dX10_rank_112 : decode cX10_rank 112 = .ok (.iadd, 1) := by decide +kernel
theorem dX10_rank_113 : decode cX10_rank 113 = .ok (.iconst 2, 1) := by decide +kernel
theorem dX10_rank_114 : decode cX10_rank 114 = .ok (.idiv, 1) := by decide +kernel
theorem dX10_rank_115 : decode cX10_rank 115 = .ok (.istore 8, 2) := by decide +kernel
theorem dX10_rank_117 : decode cX10_rank 117 = .ok (.aload_n 0, 1) := by decide +kernel
theorem dX10_rank_118 : decode cX10_rank 118 = .ok (.getfield 7, 3) := by decide +kernel
theorem dX10_rank_121 : decode cX10_rank 121 = .ok (.aload_n 0, 1) := by decide +kernel
theorem dX10_rank_122 : decode cX10_rank 122 = .ok (.iload_n 1, 1) := by decide +kernel
theorem dX10_rank_123 : decode cX10_rank 123 = .ok (.iload 8, 2) := by decide +kernel
theorem dX10_rank_125 : decode cX10_rank 125 = .ok (.invokevirtual 336, 3) := by decide +kernel
theorem dX10_rank_128 : decode cX10_rank 128 = .ok (.iload 4, 2) := by decide +kernel
theorem dX10_rank_130 : decode cX10_rank 130 = .ok (.iadd, 1) := by decide +kernel
theorem dX10_rank_131 : decode cX10_rank 131 = .ok (.laload, 1) := by decide +kernel
theorem dX10_rank_132 : decode cX10_rank 132 = .ok (.lstore 9, 2) := by decide +kernel
theorem dX10_rank_134 : decode cX10_rank 134 = .ok (.iload 5, 2) := by decide +kernel
theorem dX10_rank_136 : decode cX10_rank 136 = .ok (.ifCond .eq 18, 3) := by decide +kernel
theorem dX10_rank_139 : decode cX10_rank 139 = .ok (.lload 9, 2) := by decide +kernel
theorem dX10_rank_141 : decode cX10_rank 141 = .ok (.lload_n 2, 1) := by decide +kernel
theorem dX10_rank_142 : decode cX10_rank 142 = .ok (.lcmp, 1) := by decide +kernel
theorem dX10_rank_143 : decode cX10_rank 143 = .ok (.ifCond .le 7, 3) := by decide +kernel
theorem dX10_rank_146 : decode cX10_rank 146 = .ok (.iconst 1, 1) := by decide +kernel
theorem dX10_rank_147 : decode cX10_rank 147 = .ok (.goto 19, 3) := by decide +kernel
theorem dX10_rank_150 : decode cX10_rank 150 = .ok (.iconst 0, 1) := by decide +kernel
theorem dX10_rank_151 : decode cX10_rank 151 = .ok (.goto 15, 3) := by decide +kernel
theorem dX10_rank_154 : decode cX10_rank 154 = .ok (.lload 9, 2) := by decide +kernel
theorem dX10_rank_156 : decode cX10_rank 156 = .ok (.lload_n 2, 1) := by decide +kernel
theorem dX10_rank_157 : decode cX10_rank 157 = .ok (.lcmp, 1) := by decide +kernel
theorem dX10_rank_158 : decode cX10_rank 158 = .ok (.ifCond .ge 7, 3) := by decide +kernel
theorem dX10_rank_161 : decode cX10_rank 161 = .ok (.iconst 1, 1) := by decide +kernel
theorem dX10_rank_162 : decode cX10_rank 162 = .ok (.goto 4, 3) := by decide +kernel
theorem dX10_rank_165 : decode cX10_rank 165 = .ok (.iconst 0, 1) := by decide +kernel
theorem dX10_rank_166 : decode cX10_rank 166 = .ok (.istore 11, 2) := by decide +kernel
theorem dX10_rank_168 : decode cX10_rank 168 = .ok (.iload 11, 2) := by decide +kernel
theorem dX10_rank_170 : decode cX10_rank 170 = .ok (.ifCond .eq 10, 3) := by decide +kernel
theorem dX10_rank_173 : decode cX10_rank 173 = .ok (.iload 8, 2) := by decide +kernel
theorem dX10_rank_175 : decode cX10_rank 175 = .ok (.iconst 1, 1) := by decide +kernel
theorem dX10_rank_176 : decode cX10_rank 176 = .ok (.iadd, 1) := by decide +kernel
theorem dX10_rank_177 : decode cX10_rank 177 = .ok (.goto 5, 3) := by decide +kernel
theorem dX10_rank_180 : decode cX10_rank 180 = .ok (.iload 6, 2) := by decide +kernel
theorem dX10_rank_182 : decode cX10_rank 182 = .ok (.istore 6, 2) := by decide +kernel
theorem dX10_rank_184 : decode cX10_rank 184 = .ok (.iload 11, 2) := by decide +kernel
theorem dX10_rank_186 : decode cX10_rank 186 = .ok (.ifCond .eq 8, 3) := by decide +kernel
theorem dX10_rank_189 : decode cX10_rank 189 = .ok (.iload 7, 2) := by decide +kernel
theorem dX10_rank_191 : decode cX10_rank 191 = .ok (.goto 5, 3) := by decide +kernel
theorem dX10_rank_194 : decode cX10_rank 194 = .ok (.iload 8, 2) := by decide +kernel
theorem dX10_rank_196 : decode cX10_rank 196 = .ok (.istore 7, 2) := by decide +kernel
theorem dX10_rank_198 : decode cX10_rank 198 = .ok (.goto (-97), 3) := by decide +kernel
theorem dX10_rank_201 : decode cX10_rank 201 = .ok (.iload 6, 2) := by decide +kernel
theorem dX10_rank_203 : decode cX10_rank 203 = .ok (.ireturn, 1) := by decide +kernel
theorem dX10_drop_0 : decode cX10_drop 0 = .ok (.aload_n 0, 1) := by decide +kernel
theorem dX10_drop_1 : decode cX10_drop 1 = .ok (.iload_n 1, 1) := by decide +kernel
theorem dX10_drop_2 : decode cX10_drop 2 = .ok (.iconst 0, 1) := by decide +kernel
theorem dX10_drop_3 : decode cX10_drop 3 = .ok (.aload_n 0, 1) := by decide +kernel
theorem dX10_drop_4 : decode cX10_drop 4 = .ok (.getfield 200, 3) := by decide +kernel
theorem dX10_drop_7 : decode cX10_drop 7 = .ok (.iconst 1, 1) := by decide +kernel
theorem dX10_drop_8 : decode cX10_drop 8 = .ok (.isub, 1) := by decide +kernel
theorem dX10_drop_9 : decode cX10_drop 9 = .ok (.invokestatic 193, 3) := by decide +kernel
theorem dX10_drop_12 : decode cX10_drop 12 = .ok (.ifCond .ne 7, 3) := by decide +kernel
theorem dX10_drop_15 : decode cX10_drop 15 = .ok (.iconst 1, 1) := by decide +kernel
theorem dX10_drop_16 : decode cX10_drop 16 = .ok (.goto 15, 3) := by decide +kernel
theorem dX10_drop_19 : decode cX10_drop 19 = .ok (.aload_n 0, 1) := by decide +kernel
theorem dX10_drop_20 : decode cX10_drop 20 = .ok (.getfield 197, 3) := by decide +kernel
theorem dX10_drop_23 : decode cX10_drop 23 = .ok (.ifCond .eq 7, 3) := by decide +kernel
theorem dX10_drop_26 : decode cX10_drop 26 = .ok (.iconst 2, 1) := by decide +kernel
theorem dX10_drop_27 : decode cX10_drop 27 = .ok (.goto 4, 3) := by decide +kernel
theorem dX10_drop_30 : decode cX10_drop 30 = .ok (.iconst 0, 1) := by decide +kernel
theorem dX10_drop_31 : decode cX10_drop 31 = .ok (.putfield 125, 3) := by decide +kernel
theorem dX10_drop_34 : decode cX10_drop 34 = .ok (.aload_n 0, 1) := by decide +kernel
theorem dX10_drop_35 : decode cX10_drop 35 = .ok (.getfield 125, 3) := by decide +kernel
theorem dX10_drop_38 : decode cX10_drop 38 = .ok (.ifCond .le 5, 3) := by decide +kernel
theorem dX10_drop_41 : decode cX10_drop 41 = .ok (.iconst 0, 1) := by decide +kernel
theorem dX10_drop_42 : decode cX10_drop 42 = .ok (.ireturn, 1) := by decide +kernel
theorem dX10_drop_43 : decode cX10_drop 43 = .ok (.aload_n 0, 1) := by decide +kernel
theorem dX10_drop_44 : decode cX10_drop 44 = .ok (.aload_n 0, 1) := by decide +kernel
theorem dX10_drop_45 : decode cX10_drop 45 = .ok (.getfield 36, 3) := by decide +kernel
theorem dX10_drop_48 : decode cX10_drop 48 = .ok (.iload_n 1, 1) := by decide +kernel
theorem dX10_drop_49 : decode cX10_drop 49 = .ok (.iaload, 1) := by decide +kernel
theorem dX10_drop_50 : decode cX10_drop 50 = .ok (.invokevirtual 279, 3) := by decide +kernel
theorem dX10_drop_53 : decode cX10_drop 53 = .ok (.iload_n 1, 1) := by decide +kernel
theorem dX10_drop_54 : decode cX10_drop 54 = .ok (.iconst 1, 1) := by decide +kernel
theorem dX10_drop_55 : decode cX10_drop 55 = .ok (.iadd, 1) := by decide +kernel
theorem dX10_drop_56 : decode cX10_drop 56 = .ok (.istore_n 2, 1) := by decide +kernel
theorem dX10_drop_57 : decode cX10_drop 57 = .ok (.iload_n 2, 1) := by decide +kernel
theorem dX10_drop_58 : decode cX10_drop 58 = .ok (.aload_n 0, 1) := by decide +kernel
theorem dX10_drop_59 : decode cX10_drop 59 = .ok (.getfield 200, 3) := by decide +kernel
theorem dX10_drop_62 : decode cX10_drop 62 = .ok (.if_icmp .ge 23, 3) := by decide +kernel
theorem dX10_drop_65 : decode cX10_drop 65 = .ok (.aload_n 0, 1) := by decide +kernel
theorem dX10_drop_66 : decode cX10_drop 66 = .ok (.getfield 36, 3) := by decide +kernel
theorem dX10_drop_69 : decode cX10_drop 69 = .ok (.iload_n 2, 1) := by decide +kernel
theorem dX10_drop_70 : decode cX10_drop 70 = .ok (.iconst 1, 1) := by decide +kernel
theorem dX10_drop_71 : decode cX10_drop 71 = .ok (.isub, 1) := by decide +kernel
theorem dX10_drop_72 : decode cX10_drop 72 = .ok (.aload_n 0, 1) := by decide +kernel
theorem dX10_drop_73 : decode cX10_drop 73 = .ok (.getfield 36, 3) := by decide +kernel
theorem dX10_drop_76 : decode cX10_drop 76 = .ok (.iload_n 2, 1) := by decide +kernel
theorem dX10_drop_77 : decode cX10_drop 77 = .ok (.iaload, 1) := by decide +kernel
theorem dX10_drop_78 : decode cX10_drop 78 = .ok (.iastore, 1) := by decide +kernel
theorem dX10_drop_79 : decode cX10_drop 79 = .ok (.iinc 2 1, 3) := by decide +kernel
theorem dX10_drop_82 : decode cX10_drop 82 = .ok (.goto (-25), 3) := by decide +kernel
theorem dX10_drop_85 : decode cX10_drop 85 = .ok (.aload_n 0, 1) := by decide +kernel
theorem dX10_drop_86 : decode cX10_drop 86 = .ok (.dup, 1) := by decide +kernel
theorem dX10_drop_87 : decode cX10_drop 87 = .ok (.getfield 200, 3) := by decide +kernel
theorem dX10_drop_90 : decode cX10_drop 90 = .ok (.iconst 1, 1) := by decide +kernel
theorem dX10_drop_91 : decode cX10_drop 91 = .ok (.isub, 1) := by decide +kernel
theorem dX10_drop_92 : decode cX10_drop 92 = .ok (.putfield 200, 3) := by decide +kernel
theorem dX10_drop_95 : decode cX10_drop 95 = .ok (.aload_n 0, 1) := by decide +kernel
theorem dX10_drop_96 : decode cX10_drop 96 = .ok (.getfield 200, 3) := by decide +kernel
theorem dX10_drop_99 : decode cX10_drop 99 = .ok (.ireturn, 1) := by decide +kernel
theorem dX10_freeBlocks_0 : decode cX10_freeBlocks 0 = .ok (.iconst 0, 1) := by decide +kernel
theorem dX10_freeBlocks_1 : decode cX10_freeBlocks 1 = .ok (.istore_n 1, 1) := by decide +kernel
theorem dX10_freeBlocks_2 : decode cX10_freeBlocks 2 = .ok (.iconst 0, 1) := by decide +kernel
theorem dX10_freeBlocks_3 : decode cX10_freeBlocks 3 = .ok (.istore_n 2, 1) := by decide +kernel
theorem dX10_freeBlocks_4 : decode cX10_freeBlocks 4 = .ok (.iload_n 2, 1) := by decide +kernel
theorem dX10_freeBlocks_5 : decode cX10_freeBlocks 5 = .ok (.aload_n 0, 1) := by decide +kernel
theorem dX10_freeBlocks_6 : decode cX10_freeBlocks 6 = .ok (.getfield 106, 3) := by decide +kernel
theorem dX10_freeBlocks_9 : decode cX10_freeBlocks 9 = .ok (.if_icmp .ge 26, 3) := by decide +kernel
theorem dX10_freeBlocks_12 : decode cX10_freeBlocks 12 = .ok (.iload_n 1, 1) := by decide +kernel
theorem dX10_freeBlocks_13 : decode cX10_freeBlocks 13 = .ok (.aload_n 0, 1) := by decide +kernel
theorem dX10_freeBlocks_14 : decode cX10_freeBlocks 14 = .ok (.getfield 13, 3) := by decide +kernel
theorem dX10_freeBlocks_17 : decode cX10_freeBlocks 17 = .ok (.iload_n 2, 1) := by decide +kernel
theorem dX10_freeBlocks_18 : decode cX10_freeBlocks 18 = .ok (.baload, 1) := by decide +kernel
theorem dX10_freeBlocks_19 : decode cX10_freeBlocks 19 = .ok (.ifCond .eq 7, 3) := by decide +kernel
theorem dX10_freeBlocks_22 : decode cX10_freeBlocks 22 = .ok (.iconst 0, 1) := by decide +kernel
theorem dX10_freeBlocks_23 : decode cX10_freeBlocks 23 = .ok (.goto 4, 3) := by decide +kernel
theorem dX10_freeBlocks_26 : decode cX10_freeBlocks 26 = .ok (.iconst 1, 1) := by decide +kernel
theorem dX10_freeBlocks_27 : decode cX10_freeBlocks 27 = .ok (.iadd, 1) := by decide +kernel
theorem dX10_freeBlocks_28 : decode cX10_freeBlocks 28 = .ok (.istore_n 1, 1) := by decide +kernel
theorem dX10_freeBlocks_29 : decode cX10_freeBlocks 29 = .ok (.iinc 2 1, 3) := by decide +kernel
theorem dX10_freeBlocks_32 : decode cX10_freeBlocks 32 = .ok (.goto (-28), 3) := by decide +kernel
theorem dX10_freeBlocks_35 : decode cX10_freeBlocks 35 = .ok (.iload_n 1, 1) := by decide +kernel
theorem dX10_freeBlocks_36 : decode cX10_freeBlocks 36 = .ok (.ireturn, 1) := by decide +kernel
theorem dX10_count_0 : decode cX10_count 0 = .ok (.aload_n 0, 1) := by decide +kernel
theorem dX10_count_1 : decode cX10_count 1 = .ok (.iload_n 1, 1) := by decide +kernel
theorem dX10_count_2 : decode cX10_count 2 = .ok (.iconst 0, 1) := by decide +kernel
theorem dX10_count_3 : decode cX10_count 3 = .ok (.bipush 11, 2) := by decide +kernel
theorem dX10_count_5 : decode cX10_count 5 = .ok (.invokestatic 193, 3) := by decide +kernel
theorem dX10_count_8 : decode cX10_count 8 = .ok (.ifCond .eq 7, 3) := by decide +kernel
theorem dX10_count_11 : decode cX10_count 11 = .ok (.iconst 0, 1) := by decide +kernel
theorem dX10_count_12 : decode cX10_count 12 = .ok (.goto 4, 3) := by decide +kernel
theorem dX10_count_15 : decode cX10_count 15 = .ok (.iconst 1, 1) := by decide +kernel
theorem dX10_count_16 : decode cX10_count 16 = .ok (.putfield 125, 3) := by decide +kernel
theorem dX10_count_19 : decode cX10_count 19 = .ok (.iload_n 1, 1) := by decide +kernel
theorem dX10_count_20 : decode cX10_count 20 = .ok (.tableswitch 132 0 11 #[64, 69, 74, 79, 84, 89, 94, 99, 104, 109, 114, 119], 64) := by decide +kernel
theorem dX10_count_84 : decode cX10_count 84 = .ok (.aload_n 0, 1) := by decide +kernel
theorem dX10_count_85 : decode cX10_count 85 = .ok (.getfield 137, 3) := by decide +kernel
theorem dX10_count_88 : decode cX10_count 88 = .ok (.ireturn, 1) := by decide +kernel
theorem dX10_count_89 : decode cX10_count 89 = .ok (.aload_n 0, 1) := by decide +kernel
theorem dX10_count_90 : decode cX10_count 90 = .ok (.getfield 144, 3) := by decide +kernel
theorem dX10_count_93 : decode cX10_count 93 = .ok (.ireturn, 1) := by decide +kernel
theorem dX10_count_94 : decode cX10_count 94 = .ok (.aload_n 0, 1) := by decide +kernel
theorem dX10_count_95 : decode cX10_count 95 = .ok (.getfield 128, 3) := by decide +kernel
theorem dX10_count_98 : decode cX10_count 98 = .ok (.ireturn, 1) := by decide +kernel
theorem dX10_count_99 : decode cX10_count 99 = .ok (.aload_n 0, 1) := by decide +kernel
theorem dX10_count_100 : decode cX10_count 100 = .ok (.getfield 131, 3) := by decide +kernel
theorem dX10_count_103 : decode cX10_count 103 = .ok (.ireturn, 1) := by decide +kernel
theorem dX10_count_104 : decode cX10_count 104 = .ok (.aload_n 0, 1) := by decide +kernel
theorem dX10_count_105 : decode cX10_count 105 = .ok (.invokevirtual 339, 3) := by decide +kernel
theorem dX10_count_108 : decode cX10_count 108 = .ok (.ireturn, 1) := by decide +kernel
theorem dX10_count_109 : decode cX10_count 109 = .ok (.aload_n 0, 1) := by decide +kernel
theorem dX10_count_110 : decode cX10_count 110 = .ok (.getfield 206, 3) := by decide +kernel
theorem dX10_count_113 : decode cX10_count 113 = .ok (.ireturn, 1) := by decide +kernel
theorem dX10_count_114 : decode cX10_count 114 = .ok (.aload_n 0, 1) := by decide +kernel
theorem dX10_count_115 : decode cX10_count 115 = .ok (.invokevirtual 179, 3) := by decide +kernel
theorem dX10_count_118 : decode cX10_count 118 = .ok (.ireturn, 1) := by decide +kernel
theorem dX10_count_119 : decode cX10_count 119 = .ok (.aload_n 0, 1) := by decide +kernel
theorem dX10_count_120 : decode cX10_count 120 = .ok (.getfield 203, 3) := by decide +kernel
theorem dX10_count_123 : decode cX10_count 123 = .ok (.ireturn, 1) := by decide +kernel
theorem dX10_count_124 : decode cX10_count 124 = .ok (.aload_n 0, 1) := by decide +kernel
theorem dX10_count_125 : decode cX10_count 125 = .ok (.getfield 147, 3) := by decide +kernel
theorem dX10_count_128 : decode cX10_count 128 = .ok (.ireturn, 1) := by decide +kernel
theorem dX10_count_129 : decode cX10_count 129 = .ok (.aload_n 0, 1) := by decide +kernel
theorem dX10_count_130 : decode cX10_count 130 = .ok (.getfield 154, 3) := by decide +kernel
theorem dX10_count_133 : decode cX10_count 133 = .ok (.ireturn, 1) := by decide +kernel
theorem dX10_count_134 : decode cX10_count 134 = .ok (.aload_n 0, 1) := by decide +kernel
theorem dX10_count_135 : decode cX10_count 135 = .ok (.getfield 116, 3) := by decide +kernel
theorem dX10_count_138 : decode cX10_count 138 = .ok (.ireturn, 1) := by decide +kernel
theorem dX10_count_139 : decode cX10_count 139 = .ok (.aload_n 0, 1) := by decide +kernel
theorem dX10_count_140 : decode cX10_count 140 = .ok (.getfield 197, 3) := by decide +kernel
theorem dX10_count_143 : decode cX10_count 143 = .ok (.ifCond .eq 7, 3) := by decide +kernel
theorem dX10_count_146 : decode cX10_count 146 = .ok (.iconst 1, 1) := by decide +kernel
theorem dX10_count_147 : decode cX10_count 147 = .ok (.goto 4, 3) := by decide +kernel
theorem dX10_count_150 : decode cX10_count 150 = .ok (.iconst 0, 1) := by decide +kernel
theorem dX10_count_151 : decode cX10_count 151 = .ok (.ireturn, 1) := by decide +kernel
theorem dX10_count_152 : decode cX10_count 152 = .ok (.iconst 0, 1) := by decide +kernel
theorem dX10_count_153 : decode cX10_count 153 = .ok (.ireturn, 1) := by decide +kernel
theorem dX10_crash_0 : decode cX10_crash 0 = .ok (.aload_n 0, 1) := by decide +kernel
theorem dX10_crash_1 : decode cX10_crash 1 = .ok (.iload_n 1, 1) := by decide +kernel
theorem dX10_crash_2 : decode cX10_crash 2 = .ok (.iconst (-1), 1) := by decide +kernel
theorem dX10_crash_3 : decode cX10_crash 3 = .ok (.ldc_w 342, 3) := by decide +kernel
theorem dX10_crash_6 : decode cX10_crash 6 = .ok (.invokestatic 193, 3) := by decide +kernel
theorem dX10_crash_9 : decode cX10_crash 9 = .ok (.ifCond .ne 7, 3) := by decide +kernel
theorem dX10_crash_12 : decode cX10_crash 12 = .ok (.iconst 1, 1) := by decide +kernel
theorem dX10_crash_13 : decode cX10_crash 13 = .ok (.goto 15, 3) := by decide +kernel
theorem dX10_crash_16 : decode cX10_crash 16 = .ok (.aload_n 0, 1) := by decide +kernel
theorem dX10_crash_17 : decode cX10_crash 17 = .ok (.getfield 197, 3) := by decide +kernel
theorem dX10_crash_20 : decode cX10_crash 20 = .ok (.ifCond .eq 7, 3) := by decide +kernel
theorem dX10_crash_23 : decode cX10_crash 23 = .ok (.iconst 2, 1) := by decide +kernel
theorem dX10_crash_24 : decode cX10_crash 24 = .ok (.goto 4, 3) := by decide +kernel
theorem dX10_crash_27 : decode cX10_crash 27 = .ok (.iconst 0, 1) := by decide +kernel
theorem dX10_crash_28 : decode cX10_crash 28 = .ok (.putfield 125, 3) := by decide +kernel
theorem dX10_crash_31 : decode cX10_crash 31 = .ok (.aload_n 0, 1) := by decide +kernel
theorem dX10_crash_32 : decode cX10_crash 32 = .ok (.getfield 125, 3) := by decide +kernel
theorem dX10_crash_35 : decode cX10_crash 35 = .ok (.ifCond .le 4, 3) := by decide +kernel
theorem dX10_crash_38 : decode cX10_crash 38 = .ok (.return_, 1) := by decide +kernel
theorem dX10_crash_39 : decode cX10_crash 39 = .ok (.aload_n 0, 1) := by decide +kernel
theorem dX10_crash_40 : decode cX10_crash 40 = .ok (.iload_n 1, 1) := by decide +kernel
theorem dX10_crash_41 : decode cX10_crash 41 = .ok (.putfield 122, 3) := by decide +kernel
theorem dX10_crash_44 : decode cX10_crash 44 = .ok (.return_, 1) := by decide +kernel
theorem dX10_up_0 : decode cX10_up 0 = .ok (.aload_n 0, 1) := by decide +kernel
theorem dX10_up_1 : decode cX10_up 1 = .ok (.aload_n 0, 1) := by decide +kernel
theorem dX10_up_2 : decode cX10_up 2 = .ok (.getfield 197, 3) := by decide +kernel
theorem dX10_up_5 : decode cX10_up 5 = .ok (.ifCond .eq 7, 3) := by decide +kernel
theorem dX10_up_8 : decode cX10_up 8 = .ok (.iconst 0, 1) := by decide +kernel
theorem dX10_up_9 : decode cX10_up 9 = .ok (.goto 4, 3) := by decide +kernel
theorem dX10_up_12 : decode cX10_up 12 = .ok (.iconst 1, 1) := by decide +kernel
theorem dX10_up_13 : decode cX10_up 13 = .ok (.putfield 125, 3) := by decide +kernel
theorem dX10_up_16 : decode cX10_up 16 = .ok (.aload_n 0, 1) := by decide +kernel
theorem dX10_up_17 : decode cX10_up 17 = .ok (.getfield 125, 3) := by decide +kernel
theorem dX10_up_20 : decode cX10_up 20 = .ok (.ifCond .le 5, 3) := by decide +kernel
theorem dX10_up_23 : decode cX10_up 23 = .ok (.iconst 0, 1) := by decide +kernel
theorem dX10_up_24 : decode cX10_up 24 = .ok (.ireturn, 1) := by decide +kernel
theorem dX10_up_25 : decode cX10_up 25 = .ok (.aload_n 0, 1) := by decide +kernel
theorem dX10_up_26 : decode cX10_up 26 = .ok (.iconst 0, 1) := by decide +kernel
theorem dX10_up_27 : decode cX10_up 27 = .ok (.putfield 197, 3) := by decide +kernel
theorem dX10_up_30 : decode cX10_up 30 = .ok (.aload_n 0, 1) := by decide +kernel
theorem dX10_up_31 : decode cX10_up 31 = .ok (.iconst (-1), 1) := by decide +kernel
theorem dX10_up_32 : decode cX10_up 32 = .ok (.putfield 122, 3) := by decide +kernel
theorem dX10_up_35 : decode cX10_up 35 = .ok (.aload_n 0, 1) := by decide +kernel
theorem dX10_up_36 : decode cX10_up 36 = .ok (.getfield 200, 3) := by decide +kernel
theorem dX10_up_39 : decode cX10_up 39 = .ok (.ireturn, 1) := by decide +kernel
