theorem dL_lay_0 : decode cL_lay 0 = .ok (.aload_n 1, 1) := by decide +kernel
theorem dL_lay_1 : decode cL_lay 1 = .ok (.arraylength, 1) := by decide +kernel
theorem dL_lay_2 : decode cL_lay 2 = .ok (.ifCond .ne 7, 3) := by decide +kernel
theorem dL_lay_5 : decode cL_lay 5 = .ok (.iconst 0, 1) := by decide +kernel
theorem dL_lay_6 : decode cL_lay 6 = .ok (.goto 6, 3) := by decide +kernel
theorem dL_lay_9 : decode cL_lay 9 = .ok (.aload_n 1, 1) := by decide +kernel
theorem dL_lay_10 : decode cL_lay 10 = .ok (.iconst 0, 1) := by decide +kernel
theorem dL_lay_11 : decode cL_lay 11 = .ok (.iaload, 1) := by decide +kernel
theorem dL_lay_12 : decode cL_lay 12 = .ok (.istore 5, 2) := by decide +kernel
theorem dL_lay_14 : decode cL_lay 14 = .ok (.iload 5, 2) := by decide +kernel
theorem dL_lay_16 : decode cL_lay 16 = .ok (.iconst 3, 1) := by decide +kernel
theorem dL_lay_17 : decode cL_lay 17 = .ok (.iand, 1) := by decide +kernel
theorem dL_lay_18 : decode cL_lay 18 = .ok (.istore 6, 2) := by decide +kernel
theorem dL_lay_20 : decode cL_lay 20 = .ok (.iconst 0, 1) := by decide +kernel
theorem dL_lay_21 : decode cL_lay 21 = .ok (.istore 7, 2) := by decide +kernel
theorem dL_lay_23 : decode cL_lay 23 = .ok (.iload 7, 2) := by decide +kernel
theorem dL_lay_25 : decode cL_lay 25 = .ok (.bipush 8, 2) := by decide +kernel
theorem dL_lay_27 : decode cL_lay 27 = .ok (.if_icmp .ge 147, 3) := by decide +kernel
theorem dL_lay_30 : decode cL_lay 30 = .ok (.iload 7, 2) := by decide +kernel
theorem dL_lay_32 : decode cL_lay 32 = .ok (.iconst 1, 1) := by decide +kernel
theorem dL_lay_33 : decode cL_lay 33 = .ok (.iadd, 1) := by decide +kernel
theorem dL_lay_34 : decode cL_lay 34 = .ok (.aload_n 1, 1) := by decide +kernel
theorem dL_lay_35 : decode cL_lay 35 = .ok (.arraylength, 1) := by decide +kernel
theorem dL_lay_36 : decode cL_lay 36 = .ok (.if_icmp .ge 12, 3) := by decide +kernel
theorem dL_lay_39 : decode cL_lay 39 = .ok (.aload_n 1, 1) := by decide +kernel
theorem dL_lay_40 : decode cL_lay 40 = .ok (.iload 7, 2) := by decide +kernel
theorem dL_lay_42 : decode cL_lay 42 = .ok (.iconst 1, 1) := by decide +kernel
theorem dL_lay_43 : decode cL_lay 43 = .ok (.iadd, 1) := by decide +kernel
theorem dL_lay_44 : decode cL_lay 44 = .ok (.iaload, 1) := by decide +kernel
theorem dL_lay_45 : decode cL_lay 45 = .ok (.goto 11, 3) := by decide +kernel
theorem dL_lay_48 : decode cL_lay 48 = .ok (.bipush 37, 2) := by decide +kernel
theorem dL_lay_50 : decode cL_lay 50 = .ok (.iload 7, 2) := by decide +kernel
theorem dL_lay_52 : decode cL_lay 52 = .ok (.imul, 1) := by decide +kernel
theorem dL_lay_53 : decode cL_lay 53 = .ok (.iload 5, 2) := by decide +kernel
theorem dL_lay_55 : decode cL_lay 55 = .ok (.iadd, 1) := by decide +kernel
theorem dL_lay_56 : decode cL_lay 56 = .ok (.istore 8, 2) := by decide +kernel
theorem dL_lay_58 : decode cL_lay 58 = .ok (.aload_n 3, 1) := by decide +kernel
theorem dL_lay_59 : decode cL_lay 59 = .ok (.iload 7, 2) := by decide +kernel
theorem dL_lay_61 : decode cL_lay 61 = .ok (.iload 8, 2) := by decide +kernel
theorem dL_lay_63 : decode cL_lay 63 = .ok (.iconst 1, 1) := by decide +kernel
theorem dL_lay_64 : decode cL_lay 64 = .ok (.iand, 1) := by decide +kernel
theorem dL_lay_65 : decode cL_lay 65 = .ok (.iastore, 1) := by decide +kernel
theorem dL_lay_66 : decode cL_lay 66 = .ok (.iconst 2, 1) := by decide +kernel
theorem dL_lay_67 : decode cL_lay 67 = .ok (.iload 6, 2) := by decide +kernel
theorem dL_lay_69 : decode cL_lay 69 = .ok (.imul, 1) := by decide +kernel
theorem dL_lay_70 : decode cL_lay 70 = .ok (.iload 8, 2) := by decide +kernel
theorem dL_lay_72 : decode cL_lay 72 = .ok (.iconst 1, 1) := by decide +kernel
theorem dL_lay_73 : decode cL_lay 73 = .ok (.ishr, 1) := by decide +kernel
theorem dL_lay_74 : decode cL_lay 74 = .ok (.bipush 15, 2) := by decide +kernel
theorem dL_lay_76 : decode cL_lay 76 = .ok (.iand, 1) := by decide +kernel
theorem dL_lay_77 : decode cL_lay 77 = .ok (.iadd, 1) := by decide +kernel
theorem dL_lay_78 : decode cL_lay 78 = .ok (.istore 9, 2) := by decide +kernel
theorem dL_lay_80 : decode cL_lay 80 = .ok (.iload 8, 2) := by decide +kernel
theorem dL_lay_82 : decode cL_lay 82 = .ok (.iconst 5, 1) := by decide +kernel
theorem dL_lay_83 : decode cL_lay 83 = .ok (.ishr, 1) := by decide +kernel
theorem dL_lay_84 : decode cL_lay 84 = .ok (.bipush 7, 2) := by decide +kernel
theorem dL_lay_86 : decode cL_lay 86 = .ok (.iand, 1) := by decide +kernel
theorem dL_lay_87 : decode cL_lay 87 = .ok (.ifCond .le 7, 3) := by decide +kernel
theorem dL_lay_90 : decode cL_lay 90 = .ok (.iconst 1, 1) := by decide +kernel
theorem dL_lay_91 : decode cL_lay 91 = .ok (.goto 4, 3) := by decide +kernel
theorem dL_lay_94 : decode cL_lay 94 = .ok (.iconst 0, 1) := by decide +kernel
theorem dL_lay_95 : decode cL_lay 95 = .ok (.istore 10, 2) := by decide +kernel
theorem dL_lay_97 : decode cL_lay 97 = .ok (.iconst 0, 1) := by decide +kernel
theorem dL_lay_98 : decode cL_lay 98 = .ok (.istore 11, 2) := by decide +kernel
theorem dL_lay_100 : decode cL_lay 100 = .ok (.iload 11, 2) := by decide +kernel
theorem dL_lay_102 : decode cL_lay 102 = .ok (.iload 7, 2) := by decide +kernel
theorem dL_lay_104 : decode cL_lay 104 = .ok (.if_icmp .ge 30, 3) := by decide +kernel
theorem dL_lay_107 : decode cL_lay 107 = .ok (.iload 10, 2) := by decide +kernel
theorem dL_lay_109 : decode cL_lay 109 = .ok (.ifCond .eq 16, 3) := by decide +kernel
theorem dL_lay_112 : decode cL_lay 112 = .ok (.aload_n 2, 1) := by decide +kernel
theorem dL_lay_113 : decode cL_lay 113 = .ok (.iload 11, 2) := by decide +kernel
theorem dL_lay_115 : decode cL_lay 115 = .ok (.iaload, 1) := by decide +kernel
theorem dL_lay_116 : decode cL_lay 116 = .ok (.iload 9, 2) := by decide +kernel
theorem dL_lay_118 : decode cL_lay 118 = .ok (.if_icmp .eq 7, 3) := by decide +kernel
theorem dL_lay_121 : decode cL_lay 121 = .ok (.iconst 1, 1) := by decide +kernel
theorem dL_lay_122 : decode cL_lay 122 = .ok (.goto 4, 3) := by decide +kernel
theorem dL_lay_125 : decode cL_lay 125 = .ok (.iconst 0, 1) := by decide +kernel
theorem dL_lay_126 : decode cL_lay 126 = .ok (.istore 10, 2) := by decide +kernel
theorem dL_lay_128 : decode cL_lay 128 = .ok (.iinc 11 1, 3) := by decide +kernel
theorem dL_lay_131 : decode cL_lay 131 = .ok (.goto (-31), 3) := by decide +kernel
theorem dL_lay_134 : decode cL_lay 134 = .ok (.aload_n 2, 1) := by decide +kernel
theorem dL_lay_135 : decode cL_lay 135 = .ok (.iload 7, 2) := by decide +kernel
theorem dL_lay_137 : decode cL_lay 137 = .ok (.iload 10, 2) := by decide +kernel
theorem dL_lay_139 : decode cL_lay 139 = .ok (.ifCond .eq 8, 3) := by decide +kernel
theorem dL_lay_142 : decode cL_lay 142 = .ok (.iload 9, 2) := by decide +kernel
theorem dL_lay_144 : decode cL_lay 144 = .ok (.goto 4, 3) := by decide +kernel
theorem dL_lay_147 : decode cL_lay 147 = .ok (.iconst (-1), 1) := by decide +kernel
theorem dL_lay_148 : decode cL_lay 148 = .ok (.iastore, 1) := by decide +kernel
theorem dL_lay_149 : decode cL_lay 149 = .ok (.aload_n 0, 1) := by decide +kernel
theorem dL_lay_150 : decode cL_lay 150 = .ok (.aload_n 3, 1) := by decide +kernel
theorem dL_lay_151 : decode cL_lay 151 = .ok (.iload 7, 2) := by decide +kernel
theorem dL_lay_153 : decode cL_lay 153 = .ok (.iaload, 1) := by decide +kernel
theorem dL_lay_154 : decode cL_lay 154 = .ok (.aload_n 2, 1) := by decide +kernel
theorem dL_lay_155 : decode cL_lay 155 = .ok (.iload 7, 2) := by decide +kernel
theorem dL_lay_157 : decode cL_lay 157 = .ok (.iaload, 1) := by decide +kernel
theorem dL_lay_158 : decode cL_lay 158 = .ok (.invokevirtual 7, 3) := by decide +kernel
theorem dL_lay_161 : decode cL_lay 161 = .ok (.iload 7, 2) := by decide +kernel
theorem dL_lay_163 : decode cL_lay 163 = .ok (.if_icmp .eq 5, 3) := by decide +kernel
theorem dL_lay_166 : decode cL_lay 166 = .ok (.iconst 0, 1) := by decide +kernel
theorem dL_lay_167 : decode cL_lay 167 = .ok (.ireturn, 1) := by decide +kernel
theorem dL_lay_168 : decode cL_lay 168 = .ok (.iinc 7 1, 3) := by decide +kernel
theorem dL_lay_171 : decode cL_lay 171 = .ok (.goto (-148), 3) := by decide +kernel
theorem dL_lay_174 : decode cL_lay 174 = .ok (.iconst 0, 1) := by decide +kernel
theorem dL_lay_175 : decode cL_lay 175 = .ok (.istore 7, 2) := by decide +kernel
theorem dL_lay_177 : decode cL_lay 177 = .ok (.iload 7, 2) := by decide +kernel
theorem dL_lay_179 : decode cL_lay 179 = .ok (.bipush 64, 2) := by decide +kernel
theorem dL_lay_181 : decode cL_lay 181 = .ok (.if_icmp .ge 118, 3) := by decide +kernel
theorem dL_lay_184 : decode cL_lay 184 = .ok (.iload 7, 2) := by decide +kernel
theorem dL_lay_186 : decode cL_lay 186 = .ok (.bipush 8, 2) := by decide +kernel
theorem dL_lay_188 : decode cL_lay 188 = .ok (.idiv, 1) := by decide +kernel
theorem dL_lay_189 : decode cL_lay 189 = .ok (.iconst 1, 1) := by decide +kernel
theorem dL_lay_190 : decode cL_lay 190 = .ok (.iadd, 1) := by decide +kernel
theorem dL_lay_191 : decode cL_lay 191 = .ok (.aload_n 1, 1) := by decide +kernel
theorem dL_lay_192 : decode cL_lay 192 = .ok (.arraylength, 1) := by decide +kernel
theorem dL_lay_193 : decode cL_lay 193 = .ok (.if_icmp .ge 15, 3) := by decide +kernel
theorem dL_lay_196 : decode cL_lay 196 = .ok (.aload_n 1, 1) := by decide +kernel
theorem dL_lay_197 : decode cL_lay 197 = .ok (.iload 7, 2) := by decide +kernel
theorem dL_lay_199 : decode cL_lay 199 = .ok (.bipush 8, 2) := by decide +kernel
theorem dL_lay_201 : decode cL_lay 201 = .ok (.idiv, 1) := by decide +kernel
theorem dL_lay_202 : decode cL_lay 202 = .ok (.iconst 1, 1) := by decide +kernel
theorem dL_lay_203 : decode cL_lay 203 = .ok (.iadd, 1) := by decide +kernel
theorem dL_lay_204 : decode cL_lay 204 = .ok (.iaload, 1) := by decide +kernel
theorem dL_lay_205 : decode cL_lay 205 = .ok (.goto 8, 3) := by decide +kernel
theorem dL_lay_208 : decode cL_lay 208 = .ok (.bipush 11, 2) := by decide +kernel
theorem dL_lay_210 : decode cL_lay 210 = .ok (.iload 7, 2) := by decide +kernel
theorem dL_lay_212 : decode cL_lay 212 = .ok (.imul, 1) := by decide +kernel
theorem dL_lay_213 : decode cL_lay 213 = .ok (.istore 8, 2) := by decide +kernel
theorem dL_lay_215 : decode cL_lay 215 = .ok (.aload 4, 2) := by decide +kernel
theorem dL_lay_217 : decode cL_lay 217 = .ok (.iload 7, 2) := by decide +kernel
theorem dL_lay_219 : decode cL_lay 219 = .ok (.iload 7, 2) := by decide +kernel
theorem dL_lay_221 : decode cL_lay 221 = .ok (.bipush 8, 2) := by decide +kernel
theorem dL_lay_223 : decode cL_lay 223 = .ok (.idiv, 1) := by decide +kernel
theorem dL_lay_224 : decode cL_lay 224 = .ok (.iload 7, 2) := by decide +kernel
theorem dL_lay_226 : decode cL_lay 226 = .ok (.bipush 8, 2) := by decide +kernel
theorem dL_lay_228 : decode cL_lay 228 = .ok (.irem, 1) := by decide +kernel
theorem dL_lay_229 : decode cL_lay 229 = .ok (.if_icmp .ne 7, 3) := by decide +kernel
theorem dL_lay_232 : decode cL_lay 232 = .ok (.iconst 0, 1) := by decide +kernel
theorem dL_lay_233 : decode cL_lay 233 = .ok (.goto 22, 3) := by decide +kernel
theorem dL_lay_236 : decode cL_lay 236 = .ok (.iload 8, 2) := by decide +kernel
theorem dL_lay_238 : decode cL_lay 238 = .ok (.bipush 8, 2) := by decide +kernel
theorem dL_lay_240 : decode cL_lay 240 = .ok (.iconst 2, 1) := by decide +kernel
theorem dL_lay_241 : decode cL_lay 241 = .ok (.iload 7, 2) := by decide +kernel
theorem dL_lay_243 : decode cL_lay 243 = .ok (.bipush 8, 2) := by decide +kernel
theorem dL_lay_245 : decode cL_lay 245 = .ok (.irem, 1) := by decide +kernel
theorem dL_lay_246 : decode cL_lay 246 = .ok (.imul, 1) := by decide +kernel
theorem dL_lay_247 : decode cL_lay 247 = .ok (.iadd, 1) := by decide +kernel
theorem dL_lay_248 : decode cL_lay 248 = .ok (.ishr, 1) := by decide +kernel
theorem dL_lay_249 : decode cL_lay 249 = .ok (.bipush 15, 2) := by decide +kernel
theorem dL_lay_251 : decode cL_lay 251 = .ok (.iand, 1) := by decide +kernel
theorem dL_lay_252 : decode cL_lay 252 = .ok (.bipush 7, 2) := by decide +kernel
theorem dL_lay_254 : decode cL_lay 254 = .ok (.isub, 1) := by decide +kernel
theorem dL_lay_255 : decode cL_lay 255 = .ok (.iastore, 1) := by decide +kernel
theorem dL_lay_256 : decode cL_lay 256 = .ok (.iload 7, 2) := by decide +kernel
theorem dL_lay_258 : decode cL_lay 258 = .ok (.bipush 8, 2) := by decide +kernel
theorem dL_lay_260 : decode cL_lay 260 = .ok (.idiv, 1) := by decide +kernel
theorem dL_lay_261 : decode cL_lay 261 = .ok (.iload 7, 2) := by decide +kernel
theorem dL_lay_263 : decode cL_lay 263 = .ok (.bipush 8, 2) := by decide +kernel
theorem dL_lay_265 : decode cL_lay 265 = .ok (.irem, 1) := by decide +kernel
theorem dL_lay_266 : decode cL_lay 266 = .ok (.if_icmp .eq 27, 3) := by decide +kernel
theorem dL_lay_269 : decode cL_lay 269 = .ok (.aload_n 0, 1) := by decide +kernel
theorem dL_lay_270 : decode cL_lay 270 = .ok (.iload 7, 2) := by decide +kernel
theorem dL_lay_272 : decode cL_lay 272 = .ok (.bipush 8, 2) := by decide +kernel
theorem dL_lay_274 : decode cL_lay 274 = .ok (.idiv, 1) := by decide +kernel
theorem dL_lay_275 : decode cL_lay 275 = .ok (.iload 7, 2) := by decide +kernel
theorem dL_lay_277 : decode cL_lay 277 = .ok (.bipush 8, 2) := by decide +kernel
theorem dL_lay_279 : decode cL_lay 279 = .ok (.irem, 1) := by decide +kernel
theorem dL_lay_280 : decode cL_lay 280 = .ok (.aload 4, 2) := by decide +kernel
theorem dL_lay_282 : decode cL_lay 282 = .ok (.iload 7, 2) := by decide +kernel
theorem dL_lay_284 : decode cL_lay 284 = .ok (.iaload, 1) := by decide +kernel
theorem dL_lay_285 : decode cL_lay 285 = .ok (.invokevirtual 13, 3) := by decide +kernel
theorem dL_lay_288 : decode cL_lay 288 = .ok (.ifCond .ne 5, 3) := by decide +kernel
theorem dL_lay_291 : decode cL_lay 291 = .ok (.iconst 0, 1) := by decide +kernel
theorem dL_lay_292 : decode cL_lay 292 = .ok (.ireturn, 1) := by decide +kernel
theorem dL_lay_293 : decode cL_lay 293 = .ok (.iinc 7 1, 3) := by decide +kernel
theorem dL_lay_296 : decode cL_lay 296 = .ok (.goto (-119), 3) := by decide +kernel
theorem dL_lay_299 : decode cL_lay 299 = .ok (.aload_n 0, 1) := by decide +kernel
theorem dL_lay_300 : decode cL_lay 300 = .ok (.ldc 17, 2) := by decide +kernel
theorem dL_lay_302 : decode cL_lay 302 = .ok (.ldc 18, 2) := by decide +kernel
theorem dL_lay_304 : decode cL_lay 304 = .ok (.ldc 19, 2) := by decide +kernel
theorem dL_lay_306 : decode cL_lay 306 = .ok (.ldc 20, 2) := by decide +kernel
theorem dL_lay_308 : decode cL_lay 308 = .ok (.ldc 21, 2) := by decide +kernel
theorem dL_lay_310 : decode cL_lay 310 = .ok (.invokevirtual 22, 3) := by decide +kernel
theorem dL_lay_313 : decode cL_lay 313 = .ok (.pop, 1) := by decide +kernel
theorem dL_lay_314 : decode cL_lay 314 = .ok (.aload_n 0, 1) := by decide +kernel
theorem dL_lay_315 : decode cL_lay 315 = .ok (.ldc 26, 2) := by decide +kernel
theorem dL_lay_317 : decode cL_lay 317 = .ok (.ldc 27, 2) := by decide +kernel
theorem dL_lay_319 : decode cL_lay 319 = .ok (.ldc 28, 2) := by decide +kernel
theorem dL_lay_321 : decode cL_lay 321 = .ok (.ldc 29, 2) := by decide +kernel
theorem dL_lay_323 : decode cL_lay 323 = .ok (.ldc 30, 2) := by decide +kernel
theorem dL_lay_325 : decode cL_lay 325 = .ok (.invokevirtual 22, 3) := by decide +kernel
theorem dL_lay_328 : decode cL_lay 328 = .ok (.pop, 1) := by decide +kernel
theorem dL_lay_329 : decode cL_lay 329 = .ok (.aload_n 0, 1) := by decide +kernel
theorem dL_lay_330 : decode cL_lay 330 = .ok (.ldc 31, 2) := by decide +kernel
theorem dL_lay_332 : decode cL_lay 332 = .ok (.ldc 32, 2) := by decide +kernel
theorem dL_lay_334 : decode cL_lay 334 = .ok (.ldc 33, 2) := by decide +kernel
theorem dL_lay_336 : decode cL_lay 336 = .ok (.ldc 34, 2) := by decide +kernel
theorem dL_lay_338 : decode cL_lay 338 = .ok (.iconst 0, 1) := by decide +kernel
theorem dL_lay_339 : decode cL_lay 339 = .ok (.invokevirtual 22, 3) := by decide +kernel
theorem dL_lay_342 : decode cL_lay 342 = .ok (.pop, 1) := by decide +kernel
theorem dL_lay_343 : decode cL_lay 343 = .ok (.aload_n 0, 1) := by decide +kernel
theorem dL_lay_344 : decode cL_lay 344 = .ok (.bipush 55, 2) := by decide +kernel
theorem dL_lay_346 : decode cL_lay 346 = .ok (.invokevirtual 35, 3) := by decide +kernel
theorem dL_lay_349 : decode cL_lay 349 = .ok (.iconst 5, 1) := by decide +kernel
theorem dL_lay_350 : decode cL_lay 350 = .ok (.if_icmp .ne 7, 3) := by decide +kernel
theorem dL_lay_353 : decode cL_lay 353 = .ok (.iconst 1, 1) := by decide +kernel
theorem dL_lay_354 : decode cL_lay 354 = .ok (.goto 4, 3) := by decide +kernel
theorem dL_lay_357 : decode cL_lay 357 = .ok (.iconst 0, 1) := by decide +kernel
theorem dL_lay_358 : decode cL_lay 358 = .ok (.ireturn, 1) := by decide +kernel
theorem dL_act_0 : decode cL_act 0 = .ok (.iload_n 2, 1) := by decide +kernel
theorem dL_act_1 : decode cL_act 1 = .ok (.bipush 7, 2) := by decide +kernel
theorem dL_act_3 : decode cL_act 3 = .ok (.iand, 1) := by decide +kernel
theorem dL_act_4 : decode cL_act 4 = .ok (.istore_n 3, 1) := by decide +kernel
theorem dL_act_5 : decode cL_act 5 = .ok (.iload_n 2, 1) := by decide +kernel
theorem dL_act_6 : decode cL_act 6 = .ok (.iconst 3, 1) := by decide +kernel
theorem dL_act_7 : decode cL_act 7 = .ok (.ishr, 1) := by decide +kernel
theorem dL_act_8 : decode cL_act 8 = .ok (.bipush 7, 2) := by decide +kernel
theorem dL_act_10 : decode cL_act 10 = .ok (.iand, 1) := by decide +kernel
theorem dL_act_11 : decode cL_act 11 = .ok (.istore 4, 2) := by decide +kernel
theorem dL_act_13 : decode cL_act 13 = .ok (.iconst 1, 1) := by decide +kernel
theorem dL_act_14 : decode cL_act 14 = .ok (.iload_n 2, 1) := by decide +kernel
theorem dL_act_15 : decode cL_act 15 = .ok (.bipush 6, 2) := by decide +kernel
theorem dL_act_17 : decode cL_act 17 = .ok (.ishr, 1) := by decide +kernel
theorem dL_act_18 : decode cL_act 18 = .ok (.bipush 31, 2) := by decide +kernel
theorem dL_act_20 : decode cL_act 20 = .ok (.iand, 1) := by decide +kernel
theorem dL_act_21 : decode cL_act 21 = .ok (.iadd, 1) := by decide +kernel
theorem dL_act_22 : decode cL_act 22 = .ok (.istore 5, 2) := by decide +kernel
theorem dL_act_24 : decode cL_act 24 = .ok (.iload_n 1, 1) := by decide +kernel
theorem dL_act_25 : decode cL_act 25 = .ok (.bipush 15, 2) := by decide +kernel
theorem dL_act_27 : decode cL_act 27 = .ok (.iand, 1) := by decide +kernel
theorem dL_act_28 : decode cL_act 28 = .ok (.tableswitch 344 0 14 #[76, 99, 125, 144, 163, 173, 183, 213, 231, 249, 255, 293, 316, 324, 337], 76) := by decide +kernel
theorem dL_act_104 : decode cL_act 104 = .ok (.aload_n 0, 1) := by decide +kernel
theorem dL_act_105 : decode cL_act 105 = .ok (.iload_n 3, 1) := by decide +kernel
theorem dL_act_106 : decode cL_act 106 = .ok (.iload_n 2, 1) := by decide +kernel
theorem dL_act_107 : decode cL_act 107 = .ok (.bipush 6, 2) := by decide +kernel
theorem dL_act_109 : decode cL_act 109 = .ok (.ishr, 1) := by decide +kernel
theorem dL_act_110 : decode cL_act 110 = .ok (.bipush 31, 2) := by decide +kernel
theorem dL_act_112 : decode cL_act 112 = .ok (.iand, 1) := by decide +kernel
theorem dL_act_113 : decode cL_act 113 = .ok (.iconst 1, 1) := by decide +kernel
theorem dL_act_114 : decode cL_act 114 = .ok (.isub, 1) := by decide +kernel
theorem dL_act_115 : decode cL_act 115 = .ok (.invokevirtual 56, 3) := by decide +kernel
theorem dL_act_118 : decode cL_act 118 = .ok (.ifCond .eq 7, 3) := by decide +kernel
theorem dL_act_121 : decode cL_act 121 = .ok (.iconst 1, 1) := by decide +kernel
theorem dL_act_122 : decode cL_act 122 = .ok (.goto 4, 3) := by decide +kernel
theorem dL_act_125 : decode cL_act 125 = .ok (.iconst 0, 1) := by decide +kernel
theorem dL_act_126 : decode cL_act 126 = .ok (.ireturn, 1) := by decide +kernel
theorem dL_act_127 : decode cL_act 127 = .ok (.aload_n 0, 1) := by decide +kernel
theorem dL_act_128 : decode cL_act 128 = .ok (.iload_n 3, 1) := by decide +kernel
theorem dL_act_129 : decode cL_act 129 = .ok (.iload 4, 2) := by decide +kernel
theorem dL_act_131 : decode cL_act 131 = .ok (.iload_n 2, 1) := by decide +kernel
theorem dL_act_132 : decode cL_act 132 = .ok (.bipush 6, 2) := by decide +kernel
theorem dL_act_134 : decode cL_act 134 = .ok (.ishr, 1) := by decide +kernel
theorem dL_act_135 : decode cL_act 135 = .ok (.bipush 15, 2) := by decide +kernel
theorem dL_act_137 : decode cL_act 137 = .ok (.iand, 1) := by decide +kernel
theorem dL_act_138 : decode cL_act 138 = .ok (.bipush 7, 2) := by decide +kernel
theorem dL_act_140 : decode cL_act 140 = .ok (.isub, 1) := by decide +kernel
theorem dL_act_141 : decode cL_act 141 = .ok (.invokevirtual 13, 3) := by decide +kernel
theorem dL_act_144 : decode cL_act 144 = .ok (.ifCond .eq 7, 3) := by decide +kernel
theorem dL_act_147 : decode cL_act 147 = .ok (.iconst 1, 1) := by decide +kernel
theorem dL_act_148 : decode cL_act 148 = .ok (.goto 4, 3) := by decide +kernel
theorem dL_act_151 : decode cL_act 151 = .ok (.iconst 0, 1) := by decide +kernel
theorem dL_act_152 : decode cL_act 152 = .ok (.ireturn, 1) := by decide +kernel
theorem dL_act_153 : decode cL_act 153 = .ok (.aload_n 0, 1) := by decide +kernel
theorem dL_act_154 : decode cL_act 154 = .ok (.iload 5, 2) := by decide +kernel
theorem dL_act_156 : decode cL_act 156 = .ok (.iload 4, 2) := by decide +kernel
theorem dL_act_158 : decode cL_act 158 = .ok (.iload 4, 2) := by decide +kernel
theorem dL_act_160 : decode cL_act 160 = .ok (.iload_n 2, 1) := by decide +kernel
theorem dL_act_161 : decode cL_act 161 = .ok (.bipush 11, 2) := by decide +kernel
theorem dL_act_163 : decode cL_act 163 = .ok (.ishr, 1) := by decide +kernel
theorem dL_act_164 : decode cL_act 164 = .ok (.bipush 7, 2) := by decide +kernel
theorem dL_act_166 : decode cL_act 166 = .ok (.iand, 1) := by decide +kernel
theorem dL_act_167 : decode cL_act 167 = .ok (.iadd, 1) := by decide +kernel
theorem dL_act_168 : decode cL_act 168 = .ok (.invokevirtual 60, 3) := by decide +kernel
theorem dL_act_171 : decode cL_act 171 = .ok (.ireturn, 1) := by decide +kernel
theorem dL_act_172 : decode cL_act 172 = .ok (.aload_n 0, 1) := by decide +kernel
theorem dL_act_173 : decode cL_act 173 = .ok (.iload_n 3, 1) := by decide +kernel
theorem dL_act_174 : decode cL_act 174 = .ok (.iload 4, 2) := by decide +kernel
theorem dL_act_176 : decode cL_act 176 = .ok (.iadd, 1) := by decide +kernel
theorem dL_act_177 : decode cL_act 177 = .ok (.iload 5, 2) := by decide +kernel
theorem dL_act_179 : decode cL_act 179 = .ok (.iconst 1, 1) := by decide +kernel
theorem dL_act_180 : decode cL_act 180 = .ok (.iload_n 2, 1) := by decide +kernel
theorem dL_act_181 : decode cL_act 181 = .ok (.bipush 11, 2) := by decide +kernel
theorem dL_act_183 : decode cL_act 183 = .ok (.ishr, 1) := by decide +kernel
theorem dL_act_184 : decode cL_act 184 = .ok (.iconst 3, 1) := by decide +kernel
theorem dL_act_185 : decode cL_act 185 = .ok (.iand, 1) := by decide +kernel
theorem dL_act_186 : decode cL_act 186 = .ok (.iadd, 1) := by decide +kernel
theorem dL_act_187 : decode cL_act 187 = .ok (.invokevirtual 64, 3) := by decide +kernel
theorem dL_act_190 : decode cL_act 190 = .ok (.ireturn, 1) := by decide +kernel
theorem dL_act_191 : decode cL_act 191 = .ok (.aload_n 0, 1) := by decide +kernel
theorem dL_act_192 : decode cL_act 192 = .ok (.iload_n 3, 1) := by decide +kernel
theorem dL_act_193 : decode cL_act 193 = .ok (.iload 4, 2) := by decide +kernel
theorem dL_act_195 : decode cL_act 195 = .ok (.iload 5, 2) := by decide +kernel
theorem dL_act_197 : decode cL_act 197 = .ok (.invokevirtual 67, 3) := by decide +kernel
theorem dL_act_200 : decode cL_act 200 = .ok (.ireturn, 1) := by decide +kernel
theorem dL_act_201 : decode cL_act 201 = .ok (.aload_n 0, 1) := by decide +kernel
theorem dL_act_202 : decode cL_act 202 = .ok (.iload_n 3, 1) := by decide +kernel
theorem dL_act_203 : decode cL_act 203 = .ok (.iload 5, 2) := by decide +kernel
theorem dL_act_205 : decode cL_act 205 = .ok (.iload 4, 2) := by decide +kernel
theorem dL_act_207 : decode cL_act 207 = .ok (.invokevirtual 70, 3) := by decide +kernel
theorem dL_act_210 : decode cL_act 210 = .ok (.ireturn, 1) := by decide +kernel
theorem dL_act_211 : decode cL_act 211 = .ok (.aload_n 0, 1) := by decide +kernel
theorem dL_act_212 : decode cL_act 212 = .ok (.iload_n 3, 1) := by decide +kernel
theorem dL_act_213 : decode cL_act 213 = .ok (.iload 4, 2) := by decide +kernel
theorem dL_act_215 : decode cL_act 215 = .ok (.iload_n 2, 1) := by decide +kernel
theorem dL_act_216 : decode cL_act 216 = .ok (.bipush 6, 2) := by decide +kernel
theorem dL_act_218 : decode cL_act 218 = .ok (.ishr, 1) := by decide +kernel
theorem dL_act_219 : decode cL_act 219 = .ok (.iconst 3, 1) := by decide +kernel
theorem dL_act_220 : decode cL_act 220 = .ok (.iand, 1) := by decide +kernel
theorem dL_act_221 : decode cL_act 221 = .ok (.iconst 3, 1) := by decide +kernel
theorem dL_act_222 : decode cL_act 222 = .ok (.if_icmp .ne 8, 3) := by decide +kernel
theorem dL_act_225 : decode cL_act 225 = .ok (.bipush 11, 2) := by decide +kernel
theorem dL_act_227 : decode cL_act 227 = .ok (.goto 9, 3) := by decide +kernel
theorem dL_act_230 : decode cL_act 230 = .ok (.iload_n 2, 1) := by decide +kernel
theorem dL_act_231 : decode cL_act 231 = .ok (.bipush 6, 2) := by decide +kernel
theorem dL_act_233 : decode cL_act 233 = .ok (.ishr, 1) := by decide +kernel
theorem dL_act_234 : decode cL_act 234 = .ok (.iconst 3, 1) := by decide +kernel
theorem dL_act_235 : decode cL_act 235 = .ok (.iand, 1) := by decide +kernel
theorem dL_act_236 : decode cL_act 236 = .ok (.invokevirtual 73, 3) := by decide +kernel
theorem dL_act_239 : decode cL_act 239 = .ok (.l2i, 1) := by decide +kernel
theorem dL_act_240 : decode cL_act 240 = .ok (.ireturn, 1) := by decide +kernel
theorem dL_act_241 : decode cL_act 241 = .ok (.aload_n 0, 1) := by decide +kernel
theorem dL_act_242 : decode cL_act 242 = .ok (.iload_n 2, 1) := by decide +kernel
theorem dL_act_243 : decode cL_act 243 = .ok (.iconst 3, 1) := by decide +kernel
theorem dL_act_244 : decode cL_act 244 = .ok (.irem, 1) := by decide +kernel
theorem dL_act_245 : decode cL_act 245 = .ok (.ifCond .ge 7, 3) := by decide +kernel
theorem dL_act_248 : decode cL_act 248 = .ok (.iconst 0, 1) := by decide +kernel
theorem dL_act_249 : decode cL_act 249 = .ok (.goto 6, 3) := by decide +kernel
theorem dL_act_252 : decode cL_act 252 = .ok (.iload_n 2, 1) := by decide +kernel
theorem dL_act_253 : decode cL_act 253 = .ok (.iconst 3, 1) := by decide +kernel
theorem dL_act_254 : decode cL_act 254 = .ok (.irem, 1) := by decide +kernel
theorem dL_act_255 : decode cL_act 255 = .ok (.invokevirtual 77, 3) := by decide +kernel
theorem dL_act_258 : decode cL_act 258 = .ok (.ireturn, 1) := by decide +kernel
theorem dL_act_259 : decode cL_act 259 = .ok (.aload_n 0, 1) := by decide +kernel
theorem dL_act_260 : decode cL_act 260 = .ok (.iload_n 3, 1) := by decide +kernel
theorem dL_act_261 : decode cL_act 261 = .ok (.iload 4, 2) := by decide +kernel
theorem dL_act_263 : decode cL_act 263 = .ok (.iconst 1, 1) := by decide +kernel
theorem dL_act_264 : decode cL_act 264 = .ok (.isub, 1) := by decide +kernel
theorem dL_act_265 : decode cL_act 265 = .ok (.invokevirtual 80, 3) := by decide +kernel
theorem dL_act_268 : decode cL_act 268 = .ok (.ifCond .eq 7, 3) := by decide +kernel
theorem dL_act_271 : decode cL_act 271 = .ok (.iconst 1, 1) := by decide +kernel
theorem dL_act_272 : decode cL_act 272 = .ok (.goto 4, 3) := by decide +kernel
theorem dL_act_275 : decode cL_act 275 = .ok (.iconst 0, 1) := by decide +kernel
theorem dL_act_276 : decode cL_act 276 = .ok (.ireturn, 1) := by decide +kernel
theorem dL_act_277 : decode cL_act 277 = .ok (.aload_n 0, 1) := by decide +kernel
theorem dL_act_278 : decode cL_act 278 = .ok (.iload_n 3, 1) := by decide +kernel
theorem dL_act_279 : decode cL_act 279 = .ok (.invokevirtual 83, 3) := by decide +kernel
theorem dL_act_282 : decode cL_act 282 = .ok (.ireturn, 1) := by decide +kernel
theorem dL_act_283 : decode cL_act 283 = .ok (.aload_n 0, 1) := by decide +kernel
theorem dL_act_284 : decode cL_act 284 = .ok (.iload_n 3, 1) := by decide +kernel
theorem dL_act_285 : decode cL_act 285 = .ok (.iload 4, 2) := by decide +kernel
theorem dL_act_287 : decode cL_act 287 = .ok (.iload 5, 2) := by decide +kernel
theorem dL_act_289 : decode cL_act 289 = .ok (.bipush 7, 2) := by decide +kernel
theorem dL_act_291 : decode cL_act 291 = .ok (.iand, 1) := by decide +kernel
theorem dL_act_292 : decode cL_act 292 = .ok (.invokevirtual 86, 3) := by decide +kernel
theorem dL_act_295 : decode cL_act 295 = .ok (.ifCond .eq 7, 3) := by decide +kernel
theorem dL_act_298 : decode cL_act 298 = .ok (.iconst 1, 1) := by decide +kernel
theorem dL_act_299 : decode cL_act 299 = .ok (.goto 21, 3) := by decide +kernel
theorem dL_act_302 : decode cL_act 302 = .ok (.aload_n 0, 1) := by decide +kernel
theorem dL_act_303 : decode cL_act 303 = .ok (.iload_n 3, 1) := by decide +kernel
theorem dL_act_304 : decode cL_act 304 = .ok (.iload 5, 2) := by decide +kernel
theorem dL_act_306 : decode cL_act 306 = .ok (.bipush 10, 2) := by decide +kernel
theorem dL_act_308 : decode cL_act 308 = .ok (.irem, 1) := by decide +kernel
theorem dL_act_309 : decode cL_act 309 = .ok (.invokevirtual 89, 3) := by decide +kernel
theorem dL_act_312 : decode cL_act 312 = .ok (.ifCond .eq 7, 3) := by decide +kernel
theorem dL_act_315 : decode cL_act 315 = .ok (.iconst 2, 1) := by decide +kernel
theorem dL_act_316 : decode cL_act 316 = .ok (.goto 4, 3) := by decide +kernel
theorem dL_act_319 : decode cL_act 319 = .ok (.iconst 0, 1) := by decide +kernel
theorem dL_act_320 : decode cL_act 320 = .ok (.ireturn, 1) := by decide +kernel
theorem dL_act_321 : decode cL_act 321 = .ok (.aload_n 0, 1) := by decide +kernel
theorem dL_act_322 : decode cL_act 322 = .ok (.iload_n 2, 1) := by decide +kernel
theorem dL_act_323 : decode cL_act 323 = .ok (.bipush 6, 2) := by decide +kernel
theorem dL_act_325 : decode cL_act 325 = .ok (.ishr, 1) := by decide +kernel
theorem dL_act_326 : decode cL_act 326 = .ok (.iconst 1, 1) := by decide +kernel
theorem dL_act_327 : decode cL_act 327 = .ok (.iand, 1) := by decide +kernel
theorem dL_act_328 : decode cL_act 328 = .ok (.iload_n 3, 1) := by decide +kernel
theorem dL_act_329 : decode cL_act 329 = .ok (.iload_n 3, 1) := by decide +kernel
theorem dL_act_330 : decode cL_act 330 = .ok (.iload 4, 2) := by decide +kernel
theorem dL_act_332 : decode cL_act 332 = .ok (.iconst 3, 1) := by decide +kernel
theorem dL_act_333 : decode cL_act 333 = .ok (.iand, 1) := by decide +kernel
theorem dL_act_334 : decode cL_act 334 = .ok (.iadd, 1) := by decide +kernel
theorem dL_act_335 : decode cL_act 335 = .ok (.iload 5, 2) := by decide +kernel
theorem dL_act_337 : decode cL_act 337 = .ok (.bipush 15, 2) := by decide +kernel
theorem dL_act_339 : decode cL_act 339 = .ok (.iand, 1) := by decide +kernel
theorem dL_act_340 : decode cL_act 340 = .ok (.invokevirtual 92, 3) := by decide +kernel
theorem dL_act_343 : decode cL_act 343 = .ok (.ireturn, 1) := by decide +kernel
theorem dL_act_344 : decode cL_act 344 = .ok (.aload_n 0, 1) := by decide +kernel
theorem dL_act_345 : decode cL_act 345 = .ok (.iload_n 3, 1) := by decide +kernel
theorem dL_act_346 : decode cL_act 346 = .ok (.iload 5, 2) := by decide +kernel
theorem dL_act_348 : decode cL_act 348 = .ok (.invokevirtual 96, 3) := by decide +kernel
theorem dL_act_351 : decode cL_act 351 = .ok (.ireturn, 1) := by decide +kernel
theorem dL_act_352 : decode cL_act 352 = .ok (.aload_n 0, 1) := by decide +kernel
theorem dL_act_353 : decode cL_act 353 = .ok (.iload_n 3, 1) := by decide +kernel
theorem dL_act_354 : decode cL_act 354 = .ok (.iload 4, 2) := by decide +kernel
theorem dL_act_356 : decode cL_act 356 = .ok (.iload 5, 2) := by decide +kernel
theorem dL_act_358 : decode cL_act 358 = .ok (.bipush 7, 2) := by decide +kernel
theorem dL_act_360 : decode cL_act 360 = .ok (.iand, 1) := by decide +kernel
theorem dL_act_361 : decode cL_act 361 = .ok (.invokevirtual 99, 3) := by decide +kernel
theorem dL_act_364 : decode cL_act 364 = .ok (.ireturn, 1) := by decide +kernel
theorem dL_act_365 : decode cL_act 365 = .ok (.aload_n 0, 1) := by decide +kernel
theorem dL_act_366 : decode cL_act 366 = .ok (.iload 5, 2) := by decide +kernel
theorem dL_act_368 : decode cL_act 368 = .ok (.invokevirtual 102, 3) := by decide +kernel
theorem dL_act_371 : decode cL_act 371 = .ok (.ireturn, 1) := by decide +kernel
theorem dL_act_372 : decode cL_act 372 = .ok (.iload_n 2, 1) := by decide +kernel
theorem dL_act_373 : decode cL_act 373 = .ok (.bipush 6, 2) := by decide +kernel
theorem dL_act_375 : decode cL_act 375 = .ok (.ishr, 1) := by decide +kernel
theorem dL_act_376 : decode cL_act 376 = .ok (.iconst 3, 1) := by decide +kernel
theorem dL_act_377 : decode cL_act 377 = .ok (.iand, 1) := by decide +kernel
theorem dL_act_378 : decode cL_act 378 = .ok (.ifCond .ne 10, 3) := by decide +kernel
theorem dL_act_381 : decode cL_act 381 = .ok (.aload_n 0, 1) := by decide +kernel
theorem dL_act_382 : decode cL_act 382 = .ok (.invokevirtual 105, 3) := by decide +kernel
theorem dL_act_385 : decode cL_act 385 = .ok (.goto 35, 3) := by decide +kernel
theorem dL_act_388 : decode cL_act 388 = .ok (.iload_n 2, 1) := by decide +kernel
theorem dL_act_389 : decode cL_act 389 = .ok (.bipush 6, 2) := by decide +kernel
theorem dL_act_391 : decode cL_act 391 = .ok (.ishr, 1) := by decide +kernel
theorem dL_act_392 : decode cL_act 392 = .ok (.iconst 3, 1) := by decide +kernel
theorem dL_act_393 : decode cL_act 393 = .ok (.iand, 1) := by decide +kernel
theorem dL_act_394 : decode cL_act 394 = .ok (.iconst 1, 1) := by decide +kernel
theorem dL_act_395 : decode cL_act 395 = .ok (.if_icmp .ne 18, 3) := by decide +kernel
theorem dL_act_398 : decode cL_act 398 = .ok (.aload_n 0, 1) := by decide +kernel
theorem dL_act_399 : decode cL_act 399 = .ok (.invokevirtual 109, 3) := by decide +kernel
theorem dL_act_402 : decode cL_act 402 = .ok (.ifCond .eq 7, 3) := by decide +kernel
theorem dL_act_405 : decode cL_act 405 = .ok (.iconst 1, 1) := by decide +kernel
theorem dL_act_406 : decode cL_act 406 = .ok (.goto 14, 3) := by decide +kernel
theorem dL_act_409 : decode cL_act 409 = .ok (.iconst 0, 1) := by decide +kernel
theorem dL_act_410 : decode cL_act 410 = .ok (.goto 10, 3) := by decide +kernel
theorem dL_act_413 : decode cL_act 413 = .ok (.aload_n 0, 1) := by decide +kernel
theorem dL_act_414 : decode cL_act 414 = .ok (.iload_n 3, 1) := by decide +kernel
theorem dL_act_415 : decode cL_act 415 = .ok (.iload 5, 2) := by decide +kernel
theorem dL_act_417 : decode cL_act 417 = .ok (.invokevirtual 113, 3) := by decide +kernel
theorem dL_act_420 : decode cL_act 420 = .ok (.ireturn, 1) := by decide +kernel
theorem dL_idle_0 : decode cL_idle 0 = .ok (.iload_n 1, 1) := by decide +kernel
theorem dL_idle_1 : decode cL_idle 1 = .ok (.ifCond .ge 17, 3) := by decide +kernel
theorem dL_idle_4 : decode cL_idle 4 = .ok (.iload_n 1, 1) := by decide +kernel
theorem dL_idle_5 : decode cL_idle 5 = .ok (.iconst (-1), 1) := by decide +kernel
theorem dL_idle_6 : decode cL_idle 6 = .ok (.if_icmp .ne 8, 3) := by decide +kernel
theorem dL_idle_9 : decode cL_idle 9 = .ok (.bipush (-2), 2) := by decide +kernel
theorem dL_idle_11 : decode cL_idle 11 = .ok (.goto 11, 3) := by decide +kernel
theorem dL_idle_14 : decode cL_idle 14 = .ok (.iload_n 1, 1) := by decide +kernel
theorem dL_idle_15 : decode cL_idle 15 = .ok (.goto 7, 3) := by decide +kernel
theorem dL_idle_18 : decode cL_idle 18 = .ok (.iload_n 1, 1) := by decide +kernel
theorem dL_idle_19 : decode cL_idle 19 = .ok (.ldc 116, 2) := by decide +kernel
theorem dL_idle_21 : decode cL_idle 21 = .ok (.ior, 1) := by decide +kernel
theorem dL_idle_22 : decode cL_idle 22 = .ok (.istore_n 2, 1) := by decide +kernel
theorem dL_idle_23 : decode cL_idle 23 = .ok (.aload_n 0, 1) := by decide +kernel
theorem dL_idle_24 : decode cL_idle 24 = .ok (.iconst 2, 1) := by decide +kernel
theorem dL_idle_25 : decode cL_idle 25 = .ok (.invokevirtual 117, 3) := by decide +kernel
theorem dL_idle_28 : decode cL_idle 28 = .ok (.istore_n 3, 1) := by decide +kernel
theorem dL_idle_29 : decode cL_idle 29 = .ok (.aload_n 0, 1) := by decide +kernel
theorem dL_idle_30 : decode cL_idle 30 = .ok (.iload_n 2, 1) := by decide +kernel
theorem dL_idle_31 : decode cL_idle 31 = .ok (.iconst (-1), 1) := by decide +kernel
theorem dL_idle_32 : decode cL_idle 32 = .ok (.invokevirtual 7, 3) := by decide +kernel
theorem dL_idle_35 : decode cL_idle 35 = .ok (.iconst (-1), 1) := by decide +kernel
theorem dL_idle_36 : decode cL_idle 36 = .ok (.if_icmp .ne 238, 3) := by decide +kernel
theorem dL_idle_39 : decode cL_idle 39 = .ok (.aload_n 0, 1) := by decide +kernel
theorem dL_idle_40 : decode cL_idle 40 = .ok (.iconst 0, 1) := by decide +kernel
theorem dL_idle_41 : decode cL_idle 41 = .ok (.iload_n 2, 1) := by decide +kernel
theorem dL_idle_42 : decode cL_idle 42 = .ok (.invokevirtual 7, 3) := by decide +kernel
theorem dL_idle_45 : decode cL_idle 45 = .ok (.iconst (-1), 1) := by decide +kernel
theorem dL_idle_46 : decode cL_idle 46 = .ok (.if_icmp .ne 228, 3) := by decide +kernel
theorem dL_idle_49 : decode cL_idle 49 = .ok (.aload_n 0, 1) := by decide +kernel
theorem dL_idle_50 : decode cL_idle 50 = .ok (.iload_n 2, 1) := by decide +kernel
theorem dL_idle_51 : decode cL_idle 51 = .ok (.iconst 0, 1) := by decide +kernel
theorem dL_idle_52 : decode cL_idle 52 = .ok (.iconst 0, 1) := by decide +kernel
theorem dL_idle_53 : decode cL_idle 53 = .ok (.invokevirtual 13, 3) := by decide +kernel
theorem dL_idle_56 : decode cL_idle 56 = .ok (.ifCond .ne 218, 3) := by decide +kernel
theorem dL_idle_59 : decode cL_idle 59 = .ok (.aload_n 0, 1) := by decide +kernel
theorem dL_idle_60 : decode cL_idle 60 = .ok (.iconst 0, 1) := by decide +kernel
theorem dL_idle_61 : decode cL_idle 61 = .ok (.iconst 0, 1) := by decide +kernel
theorem dL_idle_62 : decode cL_idle 62 = .ok (.iconst 0, 1) := by decide +kernel
theorem dL_idle_63 : decode cL_idle 63 = .ok (.invokevirtual 13, 3) := by decide +kernel
theorem dL_idle_66 : decode cL_idle 66 = .ok (.ifCond .ne 208, 3) := by decide +kernel
theorem dL_idle_69 : decode cL_idle 69 = .ok (.aload_n 0, 1) := by decide +kernel
theorem dL_idle_70 : decode cL_idle 70 = .ok (.iload_n 2, 1) := by decide +kernel
theorem dL_idle_71 : decode cL_idle 71 = .ok (.iconst 0, 1) := by decide +kernel
theorem dL_idle_72 : decode cL_idle 72 = .ok (.invokevirtual 56, 3) := by decide +kernel
theorem dL_idle_75 : decode cL_idle 75 = .ok (.ifCond .ne 199, 3) := by decide +kernel
theorem dL_idle_78 : decode cL_idle 78 = .ok (.aload_n 0, 1) := by decide +kernel
theorem dL_idle_79 : decode cL_idle 79 = .ok (.iconst 0, 1) := by decide +kernel
theorem dL_idle_80 : decode cL_idle 80 = .ok (.iload_n 2, 1) := by decide +kernel
theorem dL_idle_81 : decode cL_idle 81 = .ok (.invokevirtual 56, 3) := by decide +kernel
theorem dL_idle_84 : decode cL_idle 84 = .ok (.ifCond .ne 190, 3) := by decide +kernel
theorem dL_idle_87 : decode cL_idle 87 = .ok (.aload_n 0, 1) := by decide +kernel
theorem dL_idle_88 : decode cL_idle 88 = .ok (.iconst 0, 1) := by decide +kernel
theorem dL_idle_89 : decode cL_idle 89 = .ok (.invokevirtual 35, 3) := by decide +kernel
theorem dL_idle_92 : decode cL_idle 92 = .ok (.iconst (-1), 1) := by decide +kernel
theorem dL_idle_93 : decode cL_idle 93 = .ok (.if_icmp .ne 181, 3) := by decide +kernel
theorem dL_idle_96 : decode cL_idle 96 = .ok (.aload_n 0, 1) := by decide +kernel
theorem dL_idle_97 : decode cL_idle 97 = .ok (.sipush 201, 3) := by decide +kernel
theorem dL_idle_100 : decode cL_idle 100 = .ok (.invokevirtual 35, 3) := by decide +kernel
theorem dL_idle_103 : decode cL_idle 103 = .ok (.iconst (-1), 1) := by decide +kernel
theorem dL_idle_104 : decode cL_idle 104 = .ok (.if_icmp .ne 170, 3) := by decide +kernel
theorem dL_idle_107 : decode cL_idle 107 = .ok (.aload_n 0, 1) := by decide +kernel
theorem dL_idle_108 : decode cL_idle 108 = .ok (.iload_n 2, 1) := by decide +kernel
theorem dL_idle_109 : decode cL_idle 109 = .ok (.iconst 0, 1) := by decide +kernel
theorem dL_idle_110 : decode cL_idle 110 = .ok (.iconst 0, 1) := by decide +kernel
theorem dL_idle_111 : decode cL_idle 111 = .ok (.invokevirtual 120, 3) := by decide +kernel
theorem dL_idle_114 : decode cL_idle 114 = .ok (.iconst (-1), 1) := by decide +kernel
theorem dL_idle_115 : decode cL_idle 115 = .ok (.if_icmp .ne 159, 3) := by decide +kernel
theorem dL_idle_118 : decode cL_idle 118 = .ok (.aload_n 0, 1) := by decide +kernel
theorem dL_idle_119 : decode cL_idle 119 = .ok (.iconst 1, 1) := by decide +kernel
theorem dL_idle_120 : decode cL_idle 120 = .ok (.iconst 1, 1) := by decide +kernel
theorem dL_idle_121 : decode cL_idle 121 = .ok (.iconst 1, 1) := by decide +kernel
theorem dL_idle_122 : decode cL_idle 122 = .ok (.invokevirtual 120, 3) := by decide +kernel
theorem dL_idle_125 : decode cL_idle 125 = .ok (.iconst (-1), 1) := by decide +kernel
theorem dL_idle_126 : decode cL_idle 126 = .ok (.if_icmp .ne 148, 3) := by decide +kernel
theorem dL_idle_129 : decode cL_idle 129 = .ok (.aload_n 0, 1) := by decide +kernel
theorem dL_idle_130 : decode cL_idle 130 = .ok (.iload_n 2, 1) := by decide +kernel
theorem dL_idle_131 : decode cL_idle 131 = .ok (.iconst 0, 1) := by decide +kernel
theorem dL_idle_132 : decode cL_idle 132 = .ok (.invokevirtual 123, 3) := by decide +kernel
theorem dL_idle_135 : decode cL_idle 135 = .ok (.sipush (-1000), 3) := by decide +kernel
theorem dL_idle_138 : decode cL_idle 138 = .ok (.if_icmp .ne 136, 3) := by decide +kernel
theorem dL_idle_141 : decode cL_idle 141 = .ok (.aload_n 0, 1) := by decide +kernel
theorem dL_idle_142 : decode cL_idle 142 = .ok (.iload_n 2, 1) := by decide +kernel
theorem dL_idle_143 : decode cL_idle 143 = .ok (.iconst 0, 1) := by decide +kernel
theorem dL_idle_144 : decode cL_idle 144 = .ok (.iconst 0, 1) := by decide +kernel
theorem dL_idle_145 : decode cL_idle 145 = .ok (.invokevirtual 60, 3) := by decide +kernel
theorem dL_idle_148 : decode cL_idle 148 = .ok (.iconst (-1), 1) := by decide +kernel
theorem dL_idle_149 : decode cL_idle 149 = .ok (.if_icmp .ne 125, 3) := by decide +kernel
theorem dL_idle_152 : decode cL_idle 152 = .ok (.aload_n 0, 1) := by decide +kernel
theorem dL_idle_153 : decode cL_idle 153 = .ok (.iconst 0, 1) := by decide +kernel
theorem dL_idle_154 : decode cL_idle 154 = .ok (.iconst 2, 1) := by decide +kernel
theorem dL_idle_155 : decode cL_idle 155 = .ok (.iconst 1, 1) := by decide +kernel
theorem dL_idle_156 : decode cL_idle 156 = .ok (.invokevirtual 60, 3) := by decide +kernel
theorem dL_idle_159 : decode cL_idle 159 = .ok (.iconst (-1), 1) := by decide +kernel
theorem dL_idle_160 : decode cL_idle 160 = .ok (.if_icmp .ne 114, 3) := by decide +kernel
theorem dL_idle_163 : decode cL_idle 163 = .ok (.aload_n 0, 1) := by decide +kernel
theorem dL_idle_164 : decode cL_idle 164 = .ok (.iload_n 2, 1) := by decide +kernel
theorem dL_idle_165 : decode cL_idle 165 = .ok (.iconst 0, 1) := by decide +kernel
theorem dL_idle_166 : decode cL_idle 166 = .ok (.iconst 0, 1) := by decide +kernel
theorem dL_idle_167 : decode cL_idle 167 = .ok (.invokevirtual 67, 3) := by decide +kernel
theorem dL_idle_170 : decode cL_idle 170 = .ok (.iconst (-1), 1) := by decide +kernel
theorem dL_idle_171 : decode cL_idle 171 = .ok (.if_icmp .ne 103, 3) := by decide +kernel
theorem dL_idle_174 : decode cL_idle 174 = .ok (.aload_n 0, 1) := by decide +kernel
theorem dL_idle_175 : decode cL_idle 175 = .ok (.iconst 0, 1) := by decide +kernel
theorem dL_idle_176 : decode cL_idle 176 = .ok (.iconst 0, 1) := by decide +kernel
theorem dL_idle_177 : decode cL_idle 177 = .ok (.iload_n 2, 1) := by decide +kernel
theorem dL_idle_178 : decode cL_idle 178 = .ok (.invokevirtual 67, 3) := by decide +kernel
theorem dL_idle_181 : decode cL_idle 181 = .ok (.iconst (-1), 1) := by decide +kernel
theorem dL_idle_182 : decode cL_idle 182 = .ok (.if_icmp .ne 92, 3) := by decide +kernel
theorem dL_idle_185 : decode cL_idle 185 = .ok (.aload_n 0, 1) := by decide +kernel
theorem dL_idle_186 : decode cL_idle 186 = .ok (.iload_n 2, 1) := by decide +kernel
theorem dL_idle_187 : decode cL_idle 187 = .ok (.iconst 0, 1) := by decide +kernel
theorem dL_idle_188 : decode cL_idle 188 = .ok (.iconst 0, 1) := by decide +kernel
theorem dL_idle_189 : decode cL_idle 189 = .ok (.invokevirtual 70, 3) := by decide +kernel
theorem dL_idle_192 : decode cL_idle 192 = .ok (.bipush (-3), 2) := by decide +kernel
theorem dL_idle_194 : decode cL_idle 194 = .ok (.if_icmp .ne 80, 3) := by decide +kernel
theorem dL_idle_197 : decode cL_idle 197 = .ok (.aload_n 0, 1) := by decide +kernel
theorem dL_idle_198 : decode cL_idle 198 = .ok (.iconst 0, 1) := by decide +kernel
theorem dL_idle_199 : decode cL_idle 199 = .ok (.iconst 0, 1) := by decide +kernel
theorem dL_idle_200 : decode cL_idle 200 = .ok (.iload_n 2, 1) := by decide +kernel
theorem dL_idle_201 : decode cL_idle 201 = .ok (.invokevirtual 70, 3) := by decide +kernel
theorem dL_idle_204 : decode cL_idle 204 = .ok (.bipush (-3), 2) := by decide +kernel
theorem dL_idle_206 : decode cL_idle 206 = .ok (.if_icmp .ne 68, 3) := by decide +kernel
theorem dL_idle_209 : decode cL_idle 209 = .ok (.aload_n 0, 1) := by decide +kernel
theorem dL_idle_210 : decode cL_idle 210 = .ok (.iload_n 2, 1) := by decide +kernel
theorem dL_idle_211 : decode cL_idle 211 = .ok (.iconst 0, 1) := by decide +kernel
theorem dL_idle_212 : decode cL_idle 212 = .ok (.iconst 1, 1) := by decide +kernel
theorem dL_idle_213 : decode cL_idle 213 = .ok (.invokevirtual 64, 3) := by decide +kernel
theorem dL_idle_216 : decode cL_idle 216 = .ok (.iconst (-1), 1) := by decide +kernel
theorem dL_idle_217 : decode cL_idle 217 = .ok (.if_icmp .ne 57, 3) := by decide +kernel
theorem dL_idle_220 : decode cL_idle 220 = .ok (.aload_n 0, 1) := by decide +kernel
theorem dL_idle_221 : decode cL_idle 221 = .ok (.iload_n 2, 1) := by decide +kernel
theorem dL_idle_222 : decode cL_idle 222 = .ok (.iconst 0, 1) := by decide +kernel
theorem dL_idle_223 : decode cL_idle 223 = .ok (.invokevirtual 126, 3) := by decide +kernel
theorem dL_idle_226 : decode cL_idle 226 = .ok (.iconst (-1), 1) := by decide +kernel
theorem dL_idle_227 : decode cL_idle 227 = .ok (.if_icmp .ne 47, 3) := by decide +kernel
theorem dL_idle_230 : decode cL_idle 230 = .ok (.aload_n 0, 1) := by decide +kernel
theorem dL_idle_231 : decode cL_idle 231 = .ok (.iload_n 2, 1) := by decide +kernel
theorem dL_idle_232 : decode cL_idle 232 = .ok (.iconst 0, 1) := by decide +kernel
theorem dL_idle_233 : decode cL_idle 233 = .ok (.iconst 0, 1) := by decide +kernel
theorem dL_idle_234 : decode cL_idle 234 = .ok (.invokevirtual 73, 3) := by decide +kernel
theorem dL_idle_237 : decode cL_idle 237 = .ok (.ldc2_w 129, 3) := by decide +kernel
theorem dL_idle_240 : decode cL_idle 240 = .ok (.lcmp, 1) := by decide +kernel
theorem dL_idle_241 : decode cL_idle 241 = .ok (.ifCond .ne 33, 3) := by decide +kernel
theorem dL_idle_244 : decode cL_idle 244 = .ok (.aload_n 0, 1) := by decide +kernel
theorem dL_idle_245 : decode cL_idle 245 = .ok (.iconst 0, 1) := by decide +kernel
theorem dL_idle_246 : decode cL_idle 246 = .ok (.iconst 0, 1) := by decide +kernel
theorem dL_idle_247 : decode cL_idle 247 = .ok (.iconst 0, 1) := by decide +kernel
theorem dL_idle_248 : decode cL_idle 248 = .ok (.invokevirtual 73, 3) := by decide +kernel
theorem dL_idle_251 : decode cL_idle 251 = .ok (.ldc2_w 129, 3) := by decide +kernel
theorem dL_idle_254 : decode cL_idle 254 = .ok (.lcmp, 1) := by decide +kernel
theorem dL_idle_255 : decode cL_idle 255 = .ok (.ifCond .ne 19, 3) := by decide +kernel
theorem dL_idle_258 : decode cL_idle 258 = .ok (.aload_n 0, 1) := by decide +kernel
theorem dL_idle_259 : decode cL_idle 259 = .ok (.iconst 0, 1) := by decide +kernel
theorem dL_idle_260 : decode cL_idle 260 = .ok (.iconst 1, 1) := by decide +kernel
theorem dL_idle_261 : decode cL_idle 261 = .ok (.iconst (-1), 1) := by decide +kernel
theorem dL_idle_262 : decode cL_idle 262 = .ok (.invokevirtual 131, 3) := by decide +kernel
theorem dL_idle_265 : decode cL_idle 265 = .ok (.ldc 134, 2) := by decide +kernel
theorem dL_idle_267 : decode cL_idle 267 = .ok (.if_icmp .ne 7, 3) := by decide +kernel
theorem dL_idle_270 : decode cL_idle 270 = .ok (.iconst 1, 1) := by decide +kernel
theorem dL_idle_271 : decode cL_idle 271 = .ok (.goto 4, 3) := by decide +kernel
theorem dL_idle_274 : decode cL_idle 274 = .ok (.iconst 0, 1) := by decide +kernel
theorem dL_idle_275 : decode cL_idle 275 = .ok (.istore 4, 2) := by decide +kernel
theorem dL_idle_277 : decode cL_idle 277 = .ok (.iload 4, 2) := by decide +kernel
theorem dL_idle_279 : decode cL_idle 279 = .ok (.ifCond .eq 248, 3) := by decide +kernel
theorem dL_idle_282 : decode cL_idle 282 = .ok (.aload_n 0, 1) := by decide +kernel
theorem dL_idle_283 : decode cL_idle 283 = .ok (.iconst 1, 1) := by decide +kernel
theorem dL_idle_284 : decode cL_idle 284 = .ok (.bipush 8, 2) := by decide +kernel
theorem dL_idle_286 : decode cL_idle 286 = .ok (.iconst (-1), 1) := by decide +kernel
theorem dL_idle_287 : decode cL_idle 287 = .ok (.invokevirtual 131, 3) := by decide +kernel
theorem dL_idle_290 : decode cL_idle 290 = .ok (.ldc 134, 2) := by decide +kernel
theorem dL_idle_292 : decode cL_idle 292 = .ok (.if_icmp .ne 235, 3) := by decide +kernel
theorem dL_idle_295 : decode cL_idle 295 = .ok (.aload_n 0, 1) := by decide +kernel
theorem dL_idle_296 : decode cL_idle 296 = .ok (.iload_n 2, 1) := by decide +kernel
theorem dL_idle_297 : decode cL_idle 297 = .ok (.invokevirtual 77, 3) := by decide +kernel
theorem dL_idle_300 : decode cL_idle 300 = .ok (.ldc 134, 2) := by decide +kernel
theorem dL_idle_302 : decode cL_idle 302 = .ok (.if_icmp .ne 225, 3) := by decide +kernel
theorem dL_idle_305 : decode cL_idle 305 = .ok (.aload_n 0, 1) := by decide +kernel
theorem dL_idle_306 : decode cL_idle 306 = .ok (.iload_n 2, 1) := by decide +kernel
theorem dL_idle_307 : decode cL_idle 307 = .ok (.iconst 0, 1) := by decide +kernel
theorem dL_idle_308 : decode cL_idle 308 = .ok (.invokevirtual 80, 3) := by decide +kernel
theorem dL_idle_311 : decode cL_idle 311 = .ok (.ifCond .ne 216, 3) := by decide +kernel
theorem dL_idle_314 : decode cL_idle 314 = .ok (.aload_n 0, 1) := by decide +kernel
theorem dL_idle_315 : decode cL_idle 315 = .ok (.iconst 1, 1) := by decide +kernel
theorem dL_idle_316 : decode cL_idle 316 = .ok (.iconst 1, 1) := by decide +kernel
theorem dL_idle_317 : decode cL_idle 317 = .ok (.invokevirtual 80, 3) := by decide +kernel
theorem dL_idle_320 : decode cL_idle 320 = .ok (.ifCond .ne 207, 3) := by decide +kernel
theorem dL_idle_323 : decode cL_idle 323 = .ok (.aload_n 0, 1) := by decide +kernel
theorem dL_idle_324 : decode cL_idle 324 = .ok (.iload_n 2, 1) := by decide +kernel
theorem dL_idle_325 : decode cL_idle 325 = .ok (.invokevirtual 83, 3) := by decide +kernel
theorem dL_idle_328 : decode cL_idle 328 = .ok (.iconst (-1), 1) := by decide +kernel
theorem dL_idle_329 : decode cL_idle 329 = .ok (.if_icmp .ne 198, 3) := by decide +kernel
theorem dL_idle_332 : decode cL_idle 332 = .ok (.aload_n 0, 1) := by decide +kernel
theorem dL_idle_333 : decode cL_idle 333 = .ok (.iload_n 2, 1) := by decide +kernel
theorem dL_idle_334 : decode cL_idle 334 = .ok (.iconst 0, 1) := by decide +kernel
theorem dL_idle_335 : decode cL_idle 335 = .ok (.invokevirtual 89, 3) := by decide +kernel
theorem dL_idle_338 : decode cL_idle 338 = .ok (.ifCond .ne 189, 3) := by decide +kernel
theorem dL_idle_341 : decode cL_idle 341 = .ok (.aload_n 0, 1) := by decide +kernel
theorem dL_idle_342 : decode cL_idle 342 = .ok (.iconst 0, 1) := by decide +kernel
theorem dL_idle_343 : decode cL_idle 343 = .ok (.bipush 10, 2) := by decide +kernel
theorem dL_idle_345 : decode cL_idle 345 = .ok (.invokevirtual 89, 3) := by decide +kernel
theorem dL_idle_348 : decode cL_idle 348 = .ok (.ifCond .ne 179, 3) := by decide +kernel
theorem dL_idle_351 : decode cL_idle 351 = .ok (.aload_n 0, 1) := by decide +kernel
theorem dL_idle_352 : decode cL_idle 352 = .ok (.iconst 0, 1) := by decide +kernel
theorem dL_idle_353 : decode cL_idle 353 = .ok (.iconst 0, 1) := by decide +kernel
theorem dL_idle_354 : decode cL_idle 354 = .ok (.iconst 1, 1) := by decide +kernel
theorem dL_idle_355 : decode cL_idle 355 = .ok (.invokevirtual 86, 3) := by decide +kernel
theorem dL_idle_358 : decode cL_idle 358 = .ok (.ifCond .ne 169, 3) := by decide +kernel
theorem dL_idle_361 : decode cL_idle 361 = .ok (.aload_n 0, 1) := by decide +kernel
theorem dL_idle_362 : decode cL_idle 362 = .ok (.iload_n 2, 1) := by decide +kernel
theorem dL_idle_363 : decode cL_idle 363 = .ok (.iconst 0, 1) := by decide +kernel
theorem dL_idle_364 : decode cL_idle 364 = .ok (.iconst 1, 1) := by decide +kernel
theorem dL_idle_365 : decode cL_idle 365 = .ok (.invokevirtual 86, 3) := by decide +kernel
theorem dL_idle_368 : decode cL_idle 368 = .ok (.ifCond .ne 159, 3) := by decide +kernel
theorem dL_idle_371 : decode cL_idle 371 = .ok (.aload_n 0, 1) := by decide +kernel
theorem dL_idle_372 : decode cL_idle 372 = .ok (.iload_n 2, 1) := by decide +kernel
theorem dL_idle_373 : decode cL_idle 373 = .ok (.iconst 0, 1) := by decide +kernel
theorem dL_idle_374 : decode cL_idle 374 = .ok (.iconst 0, 1) := by decide +kernel
theorem dL_idle_375 : decode cL_idle 375 = .ok (.iconst 0, 1) := by decide +kernel
theorem dL_idle_376 : decode cL_idle 376 = .ok (.invokevirtual 92, 3) := by decide +kernel
theorem dL_idle_379 : decode cL_idle 379 = .ok (.iconst (-1), 1) := by decide +kernel
theorem dL_idle_380 : decode cL_idle 380 = .ok (.if_icmp .ne 147, 3) := by decide +kernel
theorem dL_idle_383 : decode cL_idle 383 = .ok (.aload_n 0, 1) := by decide +kernel
theorem dL_idle_384 : decode cL_idle 384 = .ok (.iload_n 2, 1) := by decide +kernel
theorem dL_idle_385 : decode cL_idle 385 = .ok (.invokevirtual 135, 3) := by decide +kernel
theorem dL_idle_388 : decode cL_idle 388 = .ok (.ldc 138, 2) := by decide +kernel
theorem dL_idle_390 : decode cL_idle 390 = .ok (.if_icmp .ne 137, 3) := by decide +kernel
theorem dL_idle_393 : decode cL_idle 393 = .ok (.aload_n 0, 1) := by decide +kernel
theorem dL_idle_394 : decode cL_idle 394 = .ok (.iload_n 2, 1) := by decide +kernel
theorem dL_idle_395 : decode cL_idle 395 = .ok (.iconst 1, 1) := by decide +kernel
theorem dL_idle_396 : decode cL_idle 396 = .ok (.invokevirtual 96, 3) := by decide +kernel
theorem dL_idle_399 : decode cL_idle 399 = .ok (.iconst (-1), 1) := by decide +kernel
theorem dL_idle_400 : decode cL_idle 400 = .ok (.if_icmp .ne 127, 3) := by decide +kernel
theorem dL_idle_403 : decode cL_idle 403 = .ok (.aload_n 0, 1) := by decide +kernel
theorem dL_idle_404 : decode cL_idle 404 = .ok (.iconst 0, 1) := by decide +kernel
theorem dL_idle_405 : decode cL_idle 405 = .ok (.iconst 0, 1) := by decide +kernel
theorem dL_idle_406 : decode cL_idle 406 = .ok (.invokevirtual 96, 3) := by decide +kernel
theorem dL_idle_409 : decode cL_idle 409 = .ok (.iconst (-1), 1) := by decide +kernel
theorem dL_idle_410 : decode cL_idle 410 = .ok (.if_icmp .ne 117, 3) := by decide +kernel
theorem dL_idle_413 : decode cL_idle 413 = .ok (.aload_n 0, 1) := by decide +kernel
theorem dL_idle_414 : decode cL_idle 414 = .ok (.iconst 0, 1) := by decide +kernel
theorem dL_idle_415 : decode cL_idle 415 = .ok (.iload_n 2, 1) := by decide +kernel
theorem dL_idle_416 : decode cL_idle 416 = .ok (.iconst 1, 1) := by decide +kernel
theorem dL_idle_417 : decode cL_idle 417 = .ok (.invokevirtual 99, 3) := by decide +kernel
theorem dL_idle_420 : decode cL_idle 420 = .ok (.iconst (-1), 1) := by decide +kernel
theorem dL_idle_421 : decode cL_idle 421 = .ok (.if_icmp .ne 106, 3) := by decide +kernel
theorem dL_idle_424 : decode cL_idle 424 = .ok (.aload_n 0, 1) := by decide +kernel
theorem dL_idle_425 : decode cL_idle 425 = .ok (.iload_n 2, 1) := by decide +kernel
theorem dL_idle_426 : decode cL_idle 426 = .ok (.iconst 1, 1) := by decide +kernel
theorem dL_idle_427 : decode cL_idle 427 = .ok (.invokevirtual 113, 3) := by decide +kernel
theorem dL_idle_430 : decode cL_idle 430 = .ok (.iconst (-1), 1) := by decide +kernel
theorem dL_idle_431 : decode cL_idle 431 = .ok (.if_icmp .ne 96, 3) := by decide +kernel
theorem dL_idle_434 : decode cL_idle 434 = .ok (.aload_n 0, 1) := by decide +kernel
theorem dL_idle_435 : decode cL_idle 435 = .ok (.iconst 2, 1) := by decide +kernel
theorem dL_idle_436 : decode cL_idle 436 = .ok (.iconst 2, 1) := by decide +kernel
theorem dL_idle_437 : decode cL_idle 437 = .ok (.invokevirtual 139, 3) := by decide +kernel
theorem dL_idle_440 : decode cL_idle 440 = .ok (.iconst (-1), 1) := by decide +kernel
theorem dL_idle_441 : decode cL_idle 441 = .ok (.if_icmp .ne 86, 3) := by decide +kernel
theorem dL_idle_444 : decode cL_idle 444 = .ok (.aload_n 0, 1) := by decide +kernel
theorem dL_idle_445 : decode cL_idle 445 = .ok (.iload_n 2, 1) := by decide +kernel
theorem dL_idle_446 : decode cL_idle 446 = .ok (.iconst 0, 1) := by decide +kernel
theorem dL_idle_447 : decode cL_idle 447 = .ok (.invokevirtual 142, 3) := by decide +kernel
theorem dL_idle_450 : decode cL_idle 450 = .ok (.iconst (-1), 1) := by decide +kernel
theorem dL_idle_451 : decode cL_idle 451 = .ok (.if_icmp .ne 76, 3) := by decide +kernel
theorem dL_idle_454 : decode cL_idle 454 = .ok (.aload_n 0, 1) := by decide +kernel
theorem dL_idle_455 : decode cL_idle 455 = .ok (.iconst 0, 1) := by decide +kernel
theorem dL_idle_456 : decode cL_idle 456 = .ok (.iconst 5, 1) := by decide +kernel
theorem dL_idle_457 : decode cL_idle 457 = .ok (.invokevirtual 142, 3) := by decide +kernel
theorem dL_idle_460 : decode cL_idle 460 = .ok (.iconst (-1), 1) := by decide +kernel
theorem dL_idle_461 : decode cL_idle 461 = .ok (.if_icmp .ne 66, 3) := by decide +kernel
theorem dL_idle_464 : decode cL_idle 464 = .ok (.aload_n 0, 1) := by decide +kernel
theorem dL_idle_465 : decode cL_idle 465 = .ok (.iload_n 2, 1) := by decide +kernel
theorem dL_idle_466 : decode cL_idle 466 = .ok (.invokevirtual 145, 3) := by decide +kernel
theorem dL_idle_469 : decode cL_idle 469 = .ok (.ifCond .ne 58, 3) := by decide +kernel
theorem dL_idle_472 : decode cL_idle 472 = .ok (.aload_n 0, 1) := by decide +kernel
theorem dL_idle_473 : decode cL_idle 473 = .ok (.iload_n 2, 1) := by decide +kernel
theorem dL_idle_474 : decode cL_idle 474 = .ok (.invokevirtual 102, 3) := by decide +kernel
theorem dL_idle_477 : decode cL_idle 477 = .ok (.iconst (-1), 1) := by decide +kernel
theorem dL_idle_478 : decode cL_idle 478 = .ok (.if_icmp .ne 49, 3) := by decide +kernel
theorem dL_idle_481 : decode cL_idle 481 = .ok (.aload_n 0, 1) := by decide +kernel
theorem dL_idle_482 : decode cL_idle 482 = .ok (.iload_n 2, 1) := by decide +kernel
theorem dL_idle_483 : decode cL_idle 483 = .ok (.iconst 0, 1) := by decide +kernel
theorem dL_idle_484 : decode cL_idle 484 = .ok (.invokevirtual 149, 3) := by decide +kernel
theorem dL_idle_487 : decode cL_idle 487 = .ok (.bipush (-2), 2) := by decide +kernel
theorem dL_idle_489 : decode cL_idle 489 = .ok (.if_icmp .ne 38, 3) := by decide +kernel
theorem dL_idle_492 : decode cL_idle 492 = .ok (.aload_n 0, 1) := by decide +kernel
theorem dL_idle_493 : decode cL_idle 493 = .ok (.iconst 0, 1) := by decide +kernel
theorem dL_idle_494 : decode cL_idle 494 = .ok (.bipush 21, 2) := by decide +kernel
theorem dL_idle_496 : decode cL_idle 496 = .ok (.invokevirtual 149, 3) := by decide +kernel
theorem dL_idle_499 : decode cL_idle 499 = .ok (.bipush (-2), 2) := by decide +kernel
theorem dL_idle_501 : decode cL_idle 501 = .ok (.if_icmp .ne 26, 3) := by decide +kernel
theorem dL_idle_504 : decode cL_idle 504 = .ok (.aload_n 0, 1) := by decide +kernel
theorem dL_idle_505 : decode cL_idle 505 = .ok (.bipush 7, 2) := by decide +kernel
theorem dL_idle_507 : decode cL_idle 507 = .ok (.invokevirtual 117, 3) := by decide +kernel
theorem dL_idle_510 : decode cL_idle 510 = .ok (.iconst (-1), 1) := by decide +kernel
theorem dL_idle_511 : decode cL_idle 511 = .ok (.if_icmp .ne 16, 3) := by decide +kernel
theorem dL_idle_514 : decode cL_idle 514 = .ok (.aload_n 0, 1) := by decide +kernel
theorem dL_idle_515 : decode cL_idle 515 = .ok (.iload_n 2, 1) := by decide +kernel
theorem dL_idle_516 : decode cL_idle 516 = .ok (.invokevirtual 117, 3) := by decide +kernel
theorem dL_idle_519 : decode cL_idle 519 = .ok (.iconst (-1), 1) := by decide +kernel
theorem dL_idle_520 : decode cL_idle 520 = .ok (.if_icmp .ne 7, 3) := by decide +kernel
theorem dL_idle_523 : decode cL_idle 523 = .ok (.iconst 1, 1) := by decide +kernel
theorem dL_idle_524 : decode cL_idle 524 = .ok (.goto 4, 3) := by decide +kernel
theorem dL_idle_527 : decode cL_idle 527 = .ok (.iconst 0, 1) := by decide +kernel
theorem dL_idle_528 : decode cL_idle 528 = .ok (.istore 4, 2) := by decide +kernel
theorem dL_idle_530 : decode cL_idle 530 = .ok (.iload 4, 2) := by decide +kernel
theorem dL_idle_532 : decode cL_idle 532 = .ok (.ifCond .eq 16, 3) := by decide +kernel
theorem dL_idle_535 : decode cL_idle 535 = .ok (.aload_n 0, 1) := by decide +kernel
theorem dL_idle_536 : decode cL_idle 536 = .ok (.iconst 2, 1) := by decide +kernel
theorem dL_idle_537 : decode cL_idle 537 = .ok (.invokevirtual 117, 3) := by decide +kernel
theorem dL_idle_540 : decode cL_idle 540 = .ok (.iload_n 3, 1) := by decide +kernel
theorem dL_idle_541 : decode cL_idle 541 = .ok (.if_icmp .ne 7, 3) := by decide +kernel
theorem dL_idle_544 : decode cL_idle 544 = .ok (.iconst 1, 1) := by decide +kernel
theorem dL_idle_545 : decode cL_idle 545 = .ok (.goto 4, 3) := by decide +kernel
theorem dL_idle_548 : decode cL_idle 548 = .ok (.iconst 0, 1) := by decide +kernel
theorem dL_idle_549 : decode cL_idle 549 = .ok (.ireturn, 1) := by decide +kernel
theorem dL_alike_0 : decode cL_alike 0 = .ok (.aload_n 0, 1) := by decide +kernel
theorem dL_alike_1 : decode cL_alike 1 = .ok (.invokevirtual 152, 3) := by decide +kernel
theorem dL_alike_4 : decode cL_alike 4 = .ok (.aload_n 1, 1) := by decide +kernel
theorem dL_alike_5 : decode cL_alike 5 = .ok (.invokevirtual 152, 3) := by decide +kernel
theorem dL_alike_8 : decode cL_alike 8 = .ok (.if_icmp .ne 48, 3) := by decide +kernel
theorem dL_alike_11 : decode cL_alike 11 = .ok (.aload_n 0, 1) := by decide +kernel
theorem dL_alike_12 : decode cL_alike 12 = .ok (.invokevirtual 155, 3) := by decide +kernel
theorem dL_alike_15 : decode cL_alike 15 = .ok (.aload_n 1, 1) := by decide +kernel
theorem dL_alike_16 : decode cL_alike 16 = .ok (.invokevirtual 155, 3) := by decide +kernel
theorem dL_alike_19 : decode cL_alike 19 = .ok (.if_icmp .ne 37, 3) := by decide +kernel
theorem dL_alike_22 : decode cL_alike 22 = .ok (.aload_n 0, 1) := by decide +kernel
theorem dL_alike_23 : decode cL_alike 23 = .ok (.invokevirtual 158, 3) := by decide +kernel
theorem dL_alike_26 : decode cL_alike 26 = .ok (.aload_n 1, 1) := by decide +kernel
theorem dL_alike_27 : decode cL_alike 27 = .ok (.invokevirtual 158, 3) := by decide +kernel
theorem dL_alike_30 : decode cL_alike 30 = .ok (.if_icmp .ne 26, 3) := by decide +kernel
theorem dL_alike_33 : decode cL_alike 33 = .ok (.aload_n 0, 1) := by decide +kernel
theorem dL_alike_34 : decode cL_alike 34 = .ok (.bipush 9, 2) := by decide +kernel
theorem dL_alike_36 : decode cL_alike 36 = .ok (.bipush 20, 2) := by decide +kernel
theorem dL_alike_38 : decode cL_alike 38 = .ok (.invokevirtual 126, 3) := by decide +kernel
theorem dL_alike_41 : decode cL_alike 41 = .ok (.aload_n 1, 1) := by decide +kernel
theorem dL_alike_42 : decode cL_alike 42 = .ok (.bipush 9, 2) := by decide +kernel
theorem dL_alike_44 : decode cL_alike 44 = .ok (.bipush 20, 2) := by decide +kernel
theorem dL_alike_46 : decode cL_alike 46 = .ok (.invokevirtual 126, 3) := by decide +kernel
theorem dL_alike_49 : decode cL_alike 49 = .ok (.if_icmp .ne 7, 3) := by decide +kernel
theorem dL_alike_52 : decode cL_alike 52 = .ok (.iconst 1, 1) := by decide +kernel
theorem dL_alike_53 : decode cL_alike 53 = .ok (.goto 4, 3) := by decide +kernel
theorem dL_alike_56 : decode cL_alike 56 = .ok (.iconst 0, 1) := by decide +kernel
theorem dL_alike_57 : decode cL_alike 57 = .ok (.istore_n 2, 1) := by decide +kernel
theorem dL_alike_58 : decode cL_alike 58 = .ok (.iconst 0, 1) := by decide +kernel
theorem dL_alike_59 : decode cL_alike 59 = .ok (.istore_n 3, 1) := by decide +kernel
theorem dL_alike_60 : decode cL_alike 60 = .ok (.iload_n 3, 1) := by decide +kernel
theorem dL_alike_61 : decode cL_alike 61 = .ok (.bipush 7, 2) := by decide +kernel
theorem dL_alike_63 : decode cL_alike 63 = .ok (.if_icmp .ge 32, 3) := by decide +kernel
theorem dL_alike_66 : decode cL_alike 66 = .ok (.iload_n 2, 1) := by decide +kernel
theorem dL_alike_67 : decode cL_alike 67 = .ok (.ifCond .eq 20, 3) := by decide +kernel
theorem dL_alike_70 : decode cL_alike 70 = .ok (.aload_n 0, 1) := by decide +kernel
theorem dL_alike_71 : decode cL_alike 71 = .ok (.iload_n 3, 1) := by decide +kernel
theorem dL_alike_72 : decode cL_alike 72 = .ok (.invokevirtual 117, 3) := by decide +kernel
theorem dL_alike_75 : decode cL_alike 75 = .ok (.aload_n 1, 1) := by decide +kernel
theorem dL_alike_76 : decode cL_alike 76 = .ok (.iload_n 3, 1) := by decide +kernel
theorem dL_alike_77 : decode cL_alike 77 = .ok (.invokevirtual 117, 3) := by decide +kernel
theorem dL_alike_80 : decode cL_alike 80 = .ok (.if_icmp .ne 7, 3) := by decide +kernel
theorem dL_alike_83 : decode cL_alike 83 = .ok (.iconst 1, 1) := by decide +kernel
theorem dL_alike_84 : decode cL_alike 84 = .ok (.goto 4, 3) := by decide +kernel
theorem dL_alike_87 : decode cL_alike 87 = .ok (.iconst 0, 1) := by decide +kernel
theorem dL_alike_88 : decode cL_alike 88 = .ok (.istore_n 2, 1) := by decide +kernel
theorem dL_alike_89 : decode cL_alike 89 = .ok (.iinc 3 1, 3) := by decide +kernel
theorem dL_alike_92 : decode cL_alike 92 = .ok (.goto (-32), 3) := by decide +kernel
theorem dL_alike_95 : decode cL_alike 95 = .ok (.iconst 0, 1) := by decide +kernel
theorem dL_alike_96 : decode cL_alike 96 = .ok (.istore_n 3, 1) := by decide +kernel
theorem dL_alike_97 : decode cL_alike 97 = .ok (.iload_n 3, 1) := by decide +kernel
theorem dL_alike_98 : decode cL_alike 98 = .ok (.bipush 8, 2) := by decide +kernel
theorem dL_alike_100 : decode cL_alike 100 = .ok (.if_icmp .ge 104, 3) := by decide +kernel
theorem dL_alike_103 : decode cL_alike 103 = .ok (.iload_n 2, 1) := by decide +kernel
theorem dL_alike_104 : decode cL_alike 104 = .ok (.ifCond .eq 92, 3) := by decide +kernel
theorem dL_alike_107 : decode cL_alike 107 = .ok (.aload_n 0, 1) := by decide +kernel
theorem dL_alike_108 : decode cL_alike 108 = .ok (.bipush 20, 2) := by decide +kernel
theorem dL_alike_110 : decode cL_alike 110 = .ok (.iload_n 3, 1) := by decide +kernel
theorem dL_alike_111 : decode cL_alike 111 = .ok (.iadd, 1) := by decide +kernel
theorem dL_alike_112 : decode cL_alike 112 = .ok (.invokevirtual 117, 3) := by decide +kernel
theorem dL_alike_115 : decode cL_alike 115 = .ok (.aload_n 1, 1) := by decide +kernel
theorem dL_alike_116 : decode cL_alike 116 = .ok (.bipush 20, 2) := by decide +kernel
theorem dL_alike_118 : decode cL_alike 118 = .ok (.iload_n 3, 1) := by decide +kernel
theorem dL_alike_119 : decode cL_alike 119 = .ok (.iadd, 1) := by decide +kernel
theorem dL_alike_120 : decode cL_alike 120 = .ok (.invokevirtual 117, 3) := by decide +kernel
theorem dL_alike_123 : decode cL_alike 123 = .ok (.if_icmp .ne 73, 3) := by decide +kernel
theorem dL_alike_126 : decode cL_alike 126 = .ok (.aload_n 0, 1) := by decide +kernel
theorem dL_alike_127 : decode cL_alike 127 = .ok (.iload_n 3, 1) := by decide +kernel
theorem dL_alike_128 : decode cL_alike 128 = .ok (.iconst 0, 1) := by decide +kernel
theorem dL_alike_129 : decode cL_alike 129 = .ok (.invokevirtual 142, 3) := by decide +kernel
theorem dL_alike_132 : decode cL_alike 132 = .ok (.aload_n 1, 1) := by decide +kernel
theorem dL_alike_133 : decode cL_alike 133 = .ok (.iload_n 3, 1) := by decide +kernel
theorem dL_alike_134 : decode cL_alike 134 = .ok (.iconst 0, 1) := by decide +kernel
theorem dL_alike_135 : decode cL_alike 135 = .ok (.invokevirtual 142, 3) := by decide +kernel
theorem dL_alike_138 : decode cL_alike 138 = .ok (.if_icmp .ne 58, 3) := by decide +kernel
theorem dL_alike_141 : decode cL_alike 141 = .ok (.aload_n 0, 1) := by decide +kernel
theorem dL_alike_142 : decode cL_alike 142 = .ok (.iload_n 3, 1) := by decide +kernel
theorem dL_alike_143 : decode cL_alike 143 = .ok (.iconst 4, 1) := by decide +kernel
theorem dL_alike_144 : decode cL_alike 144 = .ok (.invokevirtual 142, 3) := by decide +kernel
theorem dL_alike_147 : decode cL_alike 147 = .ok (.aload_n 1, 1) := by decide +kernel
theorem dL_alike_148 : decode cL_alike 148 = .ok (.iload_n 3, 1) := by decide +kernel
theorem dL_alike_149 : decode cL_alike 149 = .ok (.iconst 4, 1) := by decide +kernel
theorem dL_alike_150 : decode cL_alike 150 = .ok (.invokevirtual 142, 3) := by decide +kernel
theorem dL_alike_153 : decode cL_alike 153 = .ok (.if_icmp .ne 43, 3) := by decide +kernel
theorem dL_alike_156 : decode cL_alike 156 = .ok (.aload_n 0, 1) := by decide +kernel
theorem dL_alike_157 : decode cL_alike 157 = .ok (.bipush 40, 2) := by decide +kernel
theorem dL_alike_159 : decode cL_alike 159 = .ok (.iload_n 3, 1) := by decide +kernel
theorem dL_alike_160 : decode cL_alike 160 = .ok (.iadd, 1) := by decide +kernel
theorem dL_alike_161 : decode cL_alike 161 = .ok (.invokevirtual 117, 3) := by decide +kernel
theorem dL_alike_164 : decode cL_alike 164 = .ok (.aload_n 1, 1) := by decide +kernel
theorem dL_alike_165 : decode cL_alike 165 = .ok (.bipush 40, 2) := by decide +kernel
theorem dL_alike_167 : decode cL_alike 167 = .ok (.iload_n 3, 1) := by decide +kernel
theorem dL_alike_168 : decode cL_alike 168 = .ok (.iadd, 1) := by decide +kernel
theorem dL_alike_169 : decode cL_alike 169 = .ok (.invokevirtual 117, 3) := by decide +kernel
theorem dL_alike_172 : decode cL_alike 172 = .ok (.if_icmp .ne 24, 3) := by decide +kernel
theorem dL_alike_175 : decode cL_alike 175 = .ok (.aload_n 0, 1) := by decide +kernel
theorem dL_alike_176 : decode cL_alike 176 = .ok (.iload_n 3, 1) := by decide +kernel
theorem dL_alike_177 : decode cL_alike 177 = .ok (.iconst 3, 1) := by decide +kernel
theorem dL_alike_178 : decode cL_alike 178 = .ok (.iconst (-1), 1) := by decide +kernel
theorem dL_alike_179 : decode cL_alike 179 = .ok (.invokevirtual 70, 3) := by decide +kernel
theorem dL_alike_182 : decode cL_alike 182 = .ok (.aload_n 1, 1) := by decide +kernel
theorem dL_alike_183 : decode cL_alike 183 = .ok (.iload_n 3, 1) := by decide +kernel
theorem dL_alike_184 : decode cL_alike 184 = .ok (.iconst 3, 1) := by decide +kernel
theorem dL_alike_185 : decode cL_alike 185 = .ok (.iconst (-1), 1) := by decide +kernel
theorem dL_alike_186 : decode cL_alike 186 = .ok (.invokevirtual 70, 3) := by decide +kernel
theorem dL_alike_189 : decode cL_alike 189 = .ok (.if_icmp .ne 7, 3) := by decide +kernel
theorem dL_alike_192 : decode cL_alike 192 = .ok (.iconst 1, 1) := by decide +kernel
theorem dL_alike_193 : decode cL_alike 193 = .ok (.goto 4, 3) := by decide +kernel
theorem dL_alike_196 : decode cL_alike 196 = .ok (.iconst 0, 1) := by decide +kernel
theorem dL_alike_197 : decode cL_alike 197 = .ok (.istore_n 2, 1) := by decide +kernel
theorem dL_alike_198 : decode cL_alike 198 = .ok (.iinc 3 1, 3) := by decide +kernel
theorem dL_alike_201 : decode cL_alike 201 = .ok (.goto (-104), 3) := by decide +kernel
theorem dL_alike_204 : decode cL_alike 204 = .ok (.iload_n 2, 1) := by decide +kernel
theorem dL_alike_205 : decode cL_alike 205 = .ok (.ireturn, 1) := by decide +kernel
theorem dL_law_0 : decode cL_law 0 = .ok (.new 8, 3) := by decide +kernel
theorem dL_law_3 : decode cL_law 3 = .ok (.dup, 1) := by decide +kernel
theorem dL_law_4 : decode cL_law 4 = .ok (.invokespecial 161, 3) := by decide +kernel
theorem dL_law_7 : decode cL_law 7 = .ok (.astore_n 1, 1) := by decide +kernel
theorem dL_law_8 : decode cL_law 8 = .ok (.new 8, 3) := by decide +kernel
theorem dL_law_11 : decode cL_law 11 = .ok (.dup, 1) := by decide +kernel
theorem dL_law_12 : decode cL_law 12 = .ok (.invokespecial 161, 3) := by decide +kernel
theorem dL_law_15 : decode cL_law 15 = .ok (.astore_n 2, 1) := by decide +kernel
theorem dL_law_16 : decode cL_law 16 = .ok (.bipush 8, 2) := by decide +kernel
theorem dL_law_18 : decode cL_law 18 = .ok (.newarray .int, 2) := by decide +kernel
theorem dL_law_20 : decode cL_law 20 = .ok (.dup, 1) := by decide +kernel
theorem dL_law_21 : decode cL_law 21 = .ok (.iconst 0, 1) := by decide +kernel
theorem dL_law_22 : decode cL_law 22 = .ok (.iconst 0, 1) := by decide +kernel
theorem dL_law_23 : decode cL_law 23 = .ok (.iastore, 1) := by decide +kernel
theorem dL_law_24 : decode cL_law 24 = .ok (.dup, 1) := by decide +kernel
theorem dL_law_25 : decode cL_law 25 = .ok (.iconst 1, 1) := by decide +kernel
theorem dL_law_26 : decode cL_law 26 = .ok (.iconst 0, 1) := by decide +kernel
theorem dL_law_27 : decode cL_law 27 = .ok (.iastore, 1) := by decide +kernel
theorem dL_law_28 : decode cL_law 28 = .ok (.dup, 1) := by decide +kernel
theorem dL_law_29 : decode cL_law 29 = .ok (.iconst 2, 1) := by decide +kernel
theorem dL_law_30 : decode cL_law 30 = .ok (.iconst 0, 1) := by decide +kernel
theorem dL_law_31 : decode cL_law 31 = .ok (.iastore, 1) := by decide +kernel
theorem dL_law_32 : decode cL_law 32 = .ok (.dup, 1) := by decide +kernel
theorem dL_law_33 : decode cL_law 33 = .ok (.iconst 3, 1) := by decide +kernel
theorem dL_law_34 : decode cL_law 34 = .ok (.iconst 0, 1) := by decide +kernel
theorem dL_law_35 : decode cL_law 35 = .ok (.iastore, 1) := by decide +kernel
theorem dL_law_36 : decode cL_law 36 = .ok (.dup, 1) := by decide +kernel
theorem dL_law_37 : decode cL_law 37 = .ok (.iconst 4, 1) := by decide +kernel
theorem dL_law_38 : decode cL_law 38 = .ok (.iconst 0, 1) := by decide +kernel
theorem dL_law_39 : decode cL_law 39 = .ok (.iastore, 1) := by decide +kernel
theorem dL_law_40 : decode cL_law 40 = .ok (.dup, 1) := by decide +kernel
theorem dL_law_41 : decode cL_law 41 = .ok (.iconst 5, 1) := by decide +kernel
theorem dL_law_42 : decode cL_law 42 = .ok (.iconst 0, 1) := by decide +kernel
theorem dL_law_43 : decode cL_law 43 = .ok (.iastore, 1) := by decide +kernel
theorem dL_law_44 : decode cL_law 44 = .ok (.dup, 1) := by decide +kernel
theorem dL_law_45 : decode cL_law 45 = .ok (.bipush 6, 2) := by decide +kernel
theorem dL_law_47 : decode cL_law 47 = .ok (.iconst 0, 1) := by decide +kernel
theorem dL_law_48 : decode cL_law 48 = .ok (.iastore, 1) := by decide +kernel
theorem dL_law_49 : decode cL_law 49 = .ok (.dup, 1) := by decide +kernel
theorem dL_law_50 : decode cL_law 50 = .ok (.bipush 7, 2) := by decide +kernel
theorem dL_law_52 : decode cL_law 52 = .ok (.iconst 0, 1) := by decide +kernel
theorem dL_law_53 : decode cL_law 53 = .ok (.iastore, 1) := by decide +kernel
theorem dL_law_54 : decode cL_law 54 = .ok (.astore_n 3, 1) := by decide +kernel
theorem dL_law_55 : decode cL_law 55 = .ok (.bipush 8, 2) := by decide +kernel
theorem dL_law_57 : decode cL_law 57 = .ok (.newarray .int, 2) := by decide +kernel
theorem dL_law_59 : decode cL_law 59 = .ok (.dup, 1) := by decide +kernel
theorem dL_law_60 : decode cL_law 60 = .ok (.iconst 0, 1) := by decide +kernel
theorem dL_law_61 : decode cL_law 61 = .ok (.iconst 0, 1) := by decide +kernel
theorem dL_law_62 : decode cL_law 62 = .ok (.iastore, 1) := by decide +kernel
theorem dL_law_63 : decode cL_law 63 = .ok (.dup, 1) := by decide +kernel
theorem dL_law_64 : decode cL_law 64 = .ok (.iconst 1, 1) := by decide +kernel
theorem dL_law_65 : decode cL_law 65 = .ok (.iconst 0, 1) := by decide +kernel
theorem dL_law_66 : decode cL_law 66 = .ok (.iastore, 1) := by decide +kernel
theorem dL_law_67 : decode cL_law 67 = .ok (.dup, 1) := by decide +kernel
theorem dL_law_68 : decode cL_law 68 = .ok (.iconst 2, 1) := by decide +kernel
theorem dL_law_69 : decode cL_law 69 = .ok (.iconst 0, 1) := by decide +kernel
theorem dL_law_70 : decode cL_law 70 = .ok (.iastore, 1) := by decide +kernel
theorem dL_law_71 : decode cL_law 71 = .ok (.dup, 1) := by decide +kernel
theorem dL_law_72 : decode cL_law 72 = .ok (.iconst 3, 1) := by decide +kernel
theorem dL_law_73 : decode cL_law 73 = .ok (.iconst 0, 1) := by decide +kernel
theorem dL_law_74 : decode cL_law 74 = .ok (.iastore, 1) := by decide +kernel
theorem dL_law_75 : decode cL_law 75 = .ok (.dup, 1) := by decide +kernel
theorem dL_law_76 : decode cL_law 76 = .ok (.iconst 4, 1) := by decide +kernel
theorem dL_law_77 : decode cL_law 77 = .ok (.iconst 0, 1) := by decide +kernel
theorem dL_law_78 : decode cL_law 78 = .ok (.iastore, 1) := by decide +kernel
theorem dL_law_79 : decode cL_law 79 = .ok (.dup, 1) := by decide +kernel
theorem dL_law_80 : decode cL_law 80 = .ok (.iconst 5, 1) := by decide +kernel
theorem dL_law_81 : decode cL_law 81 = .ok (.iconst 0, 1) := by decide +kernel
theorem dL_law_82 : decode cL_law 82 = .ok (.iastore, 1) := by decide +kernel
theorem dL_law_83 : decode cL_law 83 = .ok (.dup, 1) := by decide +kernel
theorem dL_law_84 : decode cL_law 84 = .ok (.bipush 6, 2) := by decide +kernel
theorem dL_law_86 : decode cL_law 86 = .ok (.iconst 0, 1) := by decide +kernel
theorem dL_law_87 : decode cL_law 87 = .ok (.iastore, 1) := by decide +kernel
theorem dL_law_88 : decode cL_law 88 = .ok (.dup, 1) := by decide +kernel
theorem dL_law_89 : decode cL_law 89 = .ok (.bipush 7, 2) := by decide +kernel
theorem dL_law_91 : decode cL_law 91 = .ok (.iconst 0, 1) := by decide +kernel
theorem dL_law_92 : decode cL_law 92 = .ok (.iastore, 1) := by decide +kernel
theorem dL_law_93 : decode cL_law 93 = .ok (.astore 4, 2) := by decide +kernel
theorem dL_law_95 : decode cL_law 95 = .ok (.bipush 64, 2) := by decide +kernel
theorem dL_law_97 : decode cL_law 97 = .ok (.newarray .int, 2) := by decide +kernel
theorem dL_law_99 : decode cL_law 99 = .ok (.dup, 1) := by decide +kernel
theorem dL_law_100 : decode cL_law 100 = .ok (.iconst 0, 1) := by decide +kernel
theorem dL_law_101 : decode cL_law 101 = .ok (.iconst 0, 1) := by decide +kernel
theorem dL_law_102 : decode cL_law 102 = .ok (.iastore, 1) := by decide +kernel
theorem dL_law_103 : decode cL_law 103 = .ok (.dup, 1) := by decide +kernel
theorem dL_law_104 : decode cL_law 104 = .ok (.iconst 1, 1) := by decide +kernel
theorem dL_law_105 : decode cL_law 105 = .ok (.iconst 0, 1) := by decide +kernel
theorem dL_law_106 : decode cL_law 106 = .ok (.iastore, 1) := by decide +kernel
theorem dL_law_107 : decode cL_law 107 = .ok (.dup, 1) := by decide +kernel
theorem dL_law_108 : decode cL_law 108 = .ok (.iconst 2, 1) := by decide +kernel
theorem dL_law_109 : decode cL_law 109 = .ok (.iconst 0, 1) := by decide +kernel
theorem dL_law_110 : decode cL_law 110 = .ok (.iastore, 1) := by decide +kernel
theorem dL_law_111 : decode cL_law 111 = .ok (.dup, 1) := by decide +kernel
theorem dL_law_112 : decode cL_law 112 = .ok (.iconst 3, 1) := by decide +kernel
theorem dL_law_113 : decode cL_law 113 = .ok (.iconst 0, 1) := by decide +kernel
theorem dL_law_114 : decode cL_law 114 = .ok (.iastore, 1) := by decide +kernel
theorem dL_law_115 : decode cL_law 115 = .ok (.dup, 1) := by decide +kernel
theorem dL_law_116 : decode cL_law 116 = .ok (.iconst 4, 1) := by decide +kernel
theorem dL_law_117 : decode cL_law 117 = .ok (.iconst 0, 1) := by decide +kernel
theorem dL_law_118 : decode cL_law 118 = .ok (.iastore, 1) := by decide +kernel
theorem dL_law_119 : decode cL_law 119 = .ok (.dup, 1) := by decide +kernel
theorem dL_law_120 : decode cL_law 120 = .ok (.iconst 5, 1) := by decide +kernel
theorem dL_law_121 : decode cL_law 121 = .ok (.iconst 0, 1) := by decide +kernel
theorem dL_law_122 : decode cL_law 122 = .ok (.iastore, 1) := by decide +kernel
theorem dL_law_123 : decode cL_law 123 = .ok (.dup, 1) := by decide +kernel
theorem dL_law_124 : decode cL_law 124 = .ok (.bipush 6, 2) := by decide +kernel
theorem dL_law_126 : decode cL_law 126 = .ok (.iconst 0, 1) := by decide +kernel
theorem dL_law_127 : decode cL_law 127 = .ok (.iastore, 1) := by decide +kernel
theorem dL_law_128 : decode cL_law 128 = .ok (.dup, 1) := by decide +kernel
theorem dL_law_129 : decode cL_law 129 = .ok (.bipush 7, 2) := by decide +kernel
theorem dL_law_131 : decode cL_law 131 = .ok (.iconst 0, 1) := by decide +kernel
theorem dL_law_132 : decode cL_law 132 = .ok (.iastore, 1) := by decide +kernel
theorem dL_law_133 : decode cL_law 133 = .ok (.dup, 1) := by decide +kernel
theorem dL_law_134 : decode cL_law 134 = .ok (.bipush 8, 2) := by decide +kernel
theorem dL_law_136 : decode cL_law 136 = .ok (.iconst 0, 1) := by decide +kernel
theorem dL_law_137 : decode cL_law 137 = .ok (.iastore, 1) := by decide +kernel
theorem dL_law_138 : decode cL_law 138 = .ok (.dup, 1) := by decide +kernel
theorem dL_law_139 : decode cL_law 139 = .ok (.bipush 9, 2) := by decide +kernel
theorem dL_law_141 : decode cL_law 141 = .ok (.iconst 0, 1) := by decide +kernel
theorem dL_law_142 : decode cL_law 142 = .ok (.iastore, 1) := by decide +kernel
theorem dL_law_143 : decode cL_law 143 = .ok (.dup, 1) := by decide +kernel
theorem dL_law_144 : decode cL_law 144 = .ok (.bipush 10, 2) := by decide +kernel
theorem dL_law_146 : decode cL_law 146 = .ok (.iconst 0, 1) := by decide +kernel
theorem dL_law_147 : decode cL_law 147 = .ok (.iastore, 1) := by decide +kernel
theorem dL_law_148 : decode cL_law 148 = .ok (.dup, 1) := by decide +kernel
theorem dL_law_149 : decode cL_law 149 = .ok (.bipush 11, 2) := by decide +kernel
theorem dL_law_151 : decode cL_law 151 = .ok (.iconst 0, 1) := by decide +kernel
theorem dL_law_152 : decode cL_law 152 = .ok (.iastore, 1) := by decide +kernel
theorem dL_law_153 : decode cL_law 153 = .ok (.dup, 1) := by decide +kernel
theorem dL_law_154 : decode cL_law 154 = .ok (.bipush 12, 2) := by decide +kernel
theorem dL_law_156 : decode cL_law 156 = .ok (.iconst 0, 1) := by decide +kernel
theorem dL_law_157 : decode cL_law 157 = .ok (.iastore, 1) := by decide +kernel
theorem dL_law_158 : decode cL_law 158 = .ok (.dup, 1) := by decide +kernel
theorem dL_law_159 : decode cL_law 159 = .ok (.bipush 13, 2) := by decide +kernel
theorem dL_law_161 : decode cL_law 161 = .ok (.iconst 0, 1) := by decide +kernel
theorem dL_law_162 : decode cL_law 162 = .ok (.iastore, 1) := by decide +kernel
theorem dL_law_163 : decode cL_law 163 = .ok (.dup, 1) := by decide +kernel
theorem dL_law_164 : decode cL_law 164 = .ok (.bipush 14, 2) := by decide +kernel
theorem dL_law_166 : decode cL_law 166 = .ok (.iconst 0, 1) := by decide +kernel
theorem dL_law_167 : decode cL_law 167 = .ok (.iastore, 1) := by decide +kernel
theorem dL_law_168 : decode cL_law 168 = .ok (.dup, 1) := by decide +kernel
theorem dL_law_169 : decode cL_law 169 = .ok (.bipush 15, 2) := by decide +kernel
theorem dL_law_171 : decode cL_law 171 = .ok (.iconst 0, 1) := by decide +kernel
theorem dL_law_172 : decode cL_law 172 = .ok (.iastore, 1) := by decide +kernel
theorem dL_law_173 : decode cL_law 173 = .ok (.dup, 1) := by decide +kernel
theorem dL_law_174 : decode cL_law 174 = .ok (.bipush 16, 2) := by decide +kernel
theorem dL_law_176 : decode cL_law 176 = .ok (.iconst 0, 1) := by decide +kernel
theorem dL_law_177 : decode cL_law 177 = .ok (.iastore, 1) := by decide +kernel
theorem dL_law_178 : decode cL_law 178 = .ok (.dup, 1) := by decide +kernel
theorem dL_law_179 : decode cL_law 179 = .ok (.bipush 17, 2) := by decide +kernel
theorem dL_law_181 : decode cL_law 181 = .ok (.iconst 0, 1) := by decide +kernel
theorem dL_law_182 : decode cL_law 182 = .ok (.iastore, 1) := by decide +kernel
theorem dL_law_183 : decode cL_law 183 = .ok (.dup, 1) := by decide +kernel
theorem dL_law_184 : decode cL_law 184 = .ok (.bipush 18, 2) := by decide +kernel
theorem dL_law_186 : decode cL_law 186 = .ok (.iconst 0, 1) := by decide +kernel
theorem dL_law_187 : decode cL_law 187 = .ok (.iastore, 1) := by decide +kernel
theorem dL_law_188 : decode cL_law 188 = .ok (.dup, 1) := by decide +kernel
theorem dL_law_189 : decode cL_law 189 = .ok (.bipush 19, 2) := by decide +kernel
theorem dL_law_191 : decode cL_law 191 = .ok (.iconst 0, 1) := by decide +kernel
theorem dL_law_192 : decode cL_law 192 = .ok (.iastore, 1) := by decide +kernel
theorem dL_law_193 : decode cL_law 193 = .ok (.dup, 1) := by decide +kernel
theorem dL_law_194 : decode cL_law 194 = .ok (.bipush 20, 2) := by decide +kernel
theorem dL_law_196 : decode cL_law 196 = .ok (.iconst 0, 1) := by decide +kernel
theorem dL_law_197 : decode cL_law 197 = .ok (.iastore, 1) := by decide +kernel
theorem dL_law_198 : decode cL_law 198 = .ok (.dup, 1) := by decide +kernel
theorem dL_law_199 : decode cL_law 199 = .ok (.bipush 21, 2) := by decide +kernel
theorem dL_law_201 : decode cL_law 201 = .ok (.iconst 0, 1) := by decide +kernel
theorem dL_law_202 : decode cL_law 202 = .ok (.iastore, 1) := by decide +kernel
theorem dL_law_203 : decode cL_law 203 = .ok (.dup, 1) := by decide +kernel
theorem dL_law_204 : decode cL_law 204 = .ok (.bipush 22, 2) := by decide +kernel
theorem dL_law_206 : decode cL_law 206 = .ok (.iconst 0, 1) := by decide +kernel
theorem dL_law_207 : decode cL_law 207 = .ok (.iastore, 1) := by decide +kernel
theorem dL_law_208 : decode cL_law 208 = .ok (.dup, 1) := by decide +kernel
theorem dL_law_209 : decode cL_law 209 = .ok (.bipush 23, 2) := by decide +kernel
theorem dL_law_211 : decode cL_law 211 = .ok (.iconst 0, 1) := by decide +kernel
theorem dL_law_212 : decode cL_law 212 = .ok (.iastore, 1) := by decide +kernel
theorem dL_law_213 : decode cL_law 213 = .ok (.dup, 1) := by decide +kernel
theorem dL_law_214 : decode cL_law 214 = .ok (.bipush 24, 2) := by decide +kernel
theorem dL_law_216 : decode cL_law 216 = .ok (.iconst 0, 1) := by decide +kernel
theorem dL_law_217 : decode cL_law 217 = .ok (.iastore, 1) := by decide +kernel
theorem dL_law_218 : decode cL_law 218 = .ok (.dup, 1) := by decide +kernel
theorem dL_law_219 : decode cL_law 219 = .ok (.bipush 25, 2) := by decide +kernel
theorem dL_law_221 : decode cL_law 221 = .ok (.iconst 0, 1) := by decide +kernel
theorem dL_law_222 : decode cL_law 222 = .ok (.iastore, 1) := by decide +kernel
theorem dL_law_223 : decode cL_law 223 = .ok (.dup, 1) := by decide +kernel
theorem dL_law_224 : decode cL_law 224 = .ok (.bipush 26, 2) := by decide +kernel
theorem dL_law_226 : decode cL_law 226 = .ok (.iconst 0, 1) := by decide +kernel
theorem dL_law_227 : decode cL_law 227 = .ok (.iastore, 1) := by decide +kernel
theorem dL_law_228 : decode cL_law 228 = .ok (.dup, 1) := by decide +kernel
theorem dL_law_229 : decode cL_law 229 = .ok (.bipush 27, 2) := by decide +kernel
theorem dL_law_231 : decode cL_law 231 = .ok (.iconst 0, 1) := by decide +kernel
theorem dL_law_232 : decode cL_law 232 = .ok (.iastore, 1) := by decide +kernel
theorem dL_law_233 : decode cL_law 233 = .ok (.dup, 1) := by decide +kernel
theorem dL_law_234 : decode cL_law 234 = .ok (.bipush 28, 2) := by decide +kernel
theorem dL_law_236 : decode cL_law 236 = .ok (.iconst 0, 1) := by decide +kernel
theorem dL_law_237 : decode cL_law 237 = .ok (.iastore, 1) := by decide +kernel
theorem dL_law_238 : decode cL_law 238 = .ok (.dup, 1) := by decide +kernel
theorem dL_law_239 : decode cL_law 239 = .ok (.bipush 29, 2) := by decide +kernel
theorem dL_law_241 : decode cL_law 241 = .ok (.iconst 0, 1) := by decide +kernel
theorem dL_law_242 : decode cL_law 242 = .ok (.iastore, 1) := by decide +kernel
theorem dL_law_243 : decode cL_law 243 = .ok (.dup, 1) := by decide +kernel
theorem dL_law_244 : decode cL_law 244 = .ok (.bipush 30, 2) := by decide +kernel
theorem dL_law_246 : decode cL_law 246 = .ok (.iconst 0, 1) := by decide +kernel
theorem dL_law_247 : decode cL_law 247 = .ok (.iastore, 1) := by decide +kernel
theorem dL_law_248 : decode cL_law 248 = .ok (.dup, 1) := by decide +kernel
theorem dL_law_249 : decode cL_law 249 = .ok (.bipush 31, 2) := by decide +kernel
theorem dL_law_251 : decode cL_law 251 = .ok (.iconst 0, 1) := by decide +kernel
theorem dL_law_252 : decode cL_law 252 = .ok (.iastore, 1) := by decide +kernel
theorem dL_law_253 : decode cL_law 253 = .ok (.dup, 1) := by decide +kernel
theorem dL_law_254 : decode cL_law 254 = .ok (.bipush 32, 2) := by decide +kernel
theorem dL_law_256 : decode cL_law 256 = .ok (.iconst 0, 1) := by decide +kernel
theorem dL_law_257 : decode cL_law 257 = .ok (.iastore, 1) := by decide +kernel
theorem dL_law_258 : decode cL_law 258 = .ok (.dup, 1) := by decide +kernel
theorem dL_law_259 : decode cL_law 259 = .ok (.bipush 33, 2) := by decide +kernel
theorem dL_law_261 : decode cL_law 261 = .ok (.iconst 0, 1) := by decide +kernel
theorem dL_law_262 : decode cL_law 262 = .ok (.iastore, 1) := by decide +kernel
theorem dL_law_263 : decode cL_law 263 = .ok (.dup, 1) := by decide +kernel
theorem dL_law_264 : decode cL_law 264 = .ok (.bipush 34, 2) := by decide +kernel
theorem dL_law_266 : decode cL_law 266 = .ok (.iconst 0, 1) := by decide +kernel
theorem dL_law_267 : decode cL_law 267 = .ok (.iastore, 1) := by decide +kernel
theorem dL_law_268 : decode cL_law 268 = .ok (.dup, 1) := by decide +kernel
theorem dL_law_269 : decode cL_law 269 = .ok (.bipush 35, 2) := by decide +kernel
theorem dL_law_271 : decode cL_law 271 = .ok (.iconst 0, 1) := by decide +kernel
theorem dL_law_272 : decode cL_law 272 = .ok (.iastore, 1) := by decide +kernel
theorem dL_law_273 : decode cL_law 273 = .ok (.dup, 1) := by decide +kernel
theorem dL_law_274 : decode cL_law 274 = .ok (.bipush 36, 2) := by decide +kernel
theorem dL_law_276 : decode cL_law 276 = .ok (.iconst 0, 1) := by decide +kernel
theorem dL_law_277 : decode cL_law 277 = .ok (.iastore, 1) := by decide +kernel
theorem dL_law_278 : decode cL_law 278 = .ok (.dup, 1) := by decide +kernel
theorem dL_law_279 : decode cL_law 279 = .ok (.bipush 37, 2) := by decide +kernel
theorem dL_law_281 : decode cL_law 281 = .ok (.iconst 0, 1) := by decide +kernel
theorem dL_law_282 : decode cL_law 282 = .ok (.iastore, 1) := by decide +kernel
theorem dL_law_283 : decode cL_law 283 = .ok (.dup, 1) := by decide +kernel
theorem dL_law_284 : decode cL_law 284 = .ok (.bipush 38, 2) := by decide +kernel
theorem dL_law_286 : decode cL_law 286 = .ok (.iconst 0, 1) := by decide +kernel
theorem dL_law_287 : decode cL_law 287 = .ok (.iastore, 1) := by decide +kernel
theorem dL_law_288 : decode cL_law 288 = .ok (.dup, 1) := by decide +kernel
theorem dL_law_289 : decode cL_law 289 = .ok (.bipush 39, 2) := by decide +kernel
theorem dL_law_291 : decode cL_law 291 = .ok (.iconst 0, 1) := by decide +kernel
theorem dL_law_292 : decode cL_law 292 = .ok (.iastore, 1) := by decide +kernel
theorem dL_law_293 : decode cL_law 293 = .ok (.dup, 1) := by decide +kernel
theorem dL_law_294 : decode cL_law 294 = .ok (.bipush 40, 2) := by decide +kernel
theorem dL_law_296 : decode cL_law 296 = .ok (.iconst 0, 1) := by decide +kernel
theorem dL_law_297 : decode cL_law 297 = .ok (.iastore, 1) := by decide +kernel
theorem dL_law_298 : decode cL_law 298 = .ok (.dup, 1) := by decide +kernel
theorem dL_law_299 : decode cL_law 299 = .ok (.bipush 41, 2) := by decide +kernel
theorem dL_law_301 : decode cL_law 301 = .ok (.iconst 0, 1) := by decide +kernel
theorem dL_law_302 : decode cL_law 302 = .ok (.iastore, 1) := by decide +kernel
theorem dL_law_303 : decode cL_law 303 = .ok (.dup, 1) := by decide +kernel
theorem dL_law_304 : decode cL_law 304 = .ok (.bipush 42, 2) := by decide +kernel
theorem dL_law_306 : decode cL_law 306 = .ok (.iconst 0, 1) := by decide +kernel
theorem dL_law_307 : decode cL_law 307 = .ok (.iastore, 1) := by decide +kernel
theorem dL_law_308 : decode cL_law 308 = .ok (.dup, 1) := by decide +kernel
theorem dL_law_309 : decode cL_law 309 = .ok (.bipush 43, 2) := by decide +kernel
theorem dL_law_311 : decode cL_law 311 = .ok (.iconst 0, 1) := by decide +kernel
theorem dL_law_312 : decode cL_law 312 = .ok (.iastore, 1) := by decide +kernel
theorem dL_law_313 : decode cL_law 313 = .ok (.dup, 1) := by decide +kernel
theorem dL_law_314 : decode cL_law 314 = .ok (.bipush 44, 2) := by decide +kernel
theorem dL_law_316 : decode cL_law 316 = .ok (.iconst 0, 1) := by decide +kernel
theorem dL_law_317 : decode cL_law 317 = .ok (.iastore, 1) := by decide +kernel
theorem dL_law_318 : decode cL_law 318 = .ok (.dup, 1) := by decide +kernel
theorem dL_law_319 : decode cL_law 319 = .ok (.bipush 45, 2) := by decide +kernel
theorem dL_law_321 : decode cL_law 321 = .ok (.iconst 0, 1) := by decide +kernel
theorem dL_law_322 : decode cL_law 322 = .ok (.iastore, 1) := by decide +kernel
theorem dL_law_323 : decode cL_law 323 = .ok (.dup, 1) := by decide +kernel
theorem dL_law_324 : decode cL_law 324 = .ok (.bipush 46, 2) := by decide +kernel
theorem dL_law_326 : decode cL_law 326 = .ok (.iconst 0, 1) := by decide +kernel
theorem dL_law_327 : decode cL_law 327 = .ok (.iastore, 1) := by decide +kernel
theorem dL_law_328 : decode cL_law 328 = .ok (.dup, 1) := by decide +kernel
theorem dL_law_329 : decode cL_law 329 = .ok (.bipush 47, 2) := by decide +kernel
theorem dL_law_331 : decode cL_law 331 = .ok (.iconst 0, 1) := by decide +kernel
theorem dL_law_332 : decode cL_law 332 = .ok (.iastore, 1) := by decide +kernel
theorem dL_law_333 : decode cL_law 333 = .ok (.dup, 1) := by decide +kernel
theorem dL_law_334 : decode cL_law 334 = .ok (.bipush 48, 2) := by decide +kernel
theorem dL_law_336 : decode cL_law 336 = .ok (.iconst 0, 1) := by decide +kernel
theorem dL_law_337 : decode cL_law 337 = .ok (.iastore, 1) := by decide +kernel
theorem dL_law_338 : decode cL_law 338 = .ok (.dup, 1) := by decide +kernel
theorem dL_law_339 : decode cL_law 339 = .ok (.bipush 49, 2) := by decide +kernel
theorem dL_law_341 : decode cL_law 341 = .ok (.iconst 0, 1) := by decide +kernel
theorem dL_law_342 : decode cL_law 342 = .ok (.iastore, 1) := by decide +kernel
theorem dL_law_343 : decode cL_law 343 = .ok (.dup, 1) := by decide +kernel
theorem dL_law_344 : decode cL_law 344 = .ok (.bipush 50, 2) := by decide +kernel
theorem dL_law_346 : decode cL_law 346 = .ok (.iconst 0, 1) := by decide +kernel
theorem dL_law_347 : decode cL_law 347 = .ok (.iastore, 1) := by decide +kernel
theorem dL_law_348 : decode cL_law 348 = .ok (.dup, 1) := by decide +kernel
theorem dL_law_349 : decode cL_law 349 = .ok (.bipush 51, 2) := by decide +kernel
theorem dL_law_351 : decode cL_law 351 = .ok (.iconst 0, 1) := by decide +kernel
theorem dL_law_352 : decode cL_law 352 = .ok (.iastore, 1) := by decide +kernel
theorem dL_law_353 : decode cL_law 353 = .ok (.dup, 1) := by decide +kernel
theorem dL_law_354 : decode cL_law 354 = .ok (.bipush 52, 2) := by decide +kernel
theorem dL_law_356 : decode cL_law 356 = .ok (.iconst 0, 1) := by decide +kernel
theorem dL_law_357 : decode cL_law 357 = .ok (.iastore, 1) := by decide +kernel
theorem dL_law_358 : decode cL_law 358 = .ok (.dup, 1) := by decide +kernel
theorem dL_law_359 : decode cL_law 359 = .ok (.bipush 53, 2) := by decide +kernel
theorem dL_law_361 : decode cL_law 361 = .ok (.iconst 0, 1) := by decide +kernel
theorem dL_law_362 : decode cL_law 362 = .ok (.iastore, 1) := by decide +kernel
theorem dL_law_363 : decode cL_law 363 = .ok (.dup, 1) := by decide +kernel
theorem dL_law_364 : decode cL_law 364 = .ok (.bipush 54, 2) := by decide +kernel
theorem dL_law_366 : decode cL_law 366 = .ok (.iconst 0, 1) := by decide +kernel
theorem dL_law_367 : decode cL_law 367 = .ok (.iastore, 1) := by decide +kernel
theorem dL_law_368 : decode cL_law 368 = .ok (.dup, 1) := by decide +kernel
theorem dL_law_369 : decode cL_law 369 = .ok (.bipush 55, 2) := by decide +kernel
theorem dL_law_371 : decode cL_law 371 = .ok (.iconst 0, 1) := by decide +kernel
theorem dL_law_372 : decode cL_law 372 = .ok (.iastore, 1) := by decide +kernel
theorem dL_law_373 : decode cL_law 373 = .ok (.dup, 1) := by decide +kernel
theorem dL_law_374 : decode cL_law 374 = .ok (.bipush 56, 2) := by decide +kernel
theorem dL_law_376 : decode cL_law 376 = .ok (.iconst 0, 1) := by decide +kernel
theorem dL_law_377 : decode cL_law 377 = .ok (.iastore, 1) := by decide +kernel
theorem dL_law_378 : decode cL_law 378 = .ok (.dup, 1) := by decide +kernel
theorem dL_law_379 : decode cL_law 379 = .ok (.bipush 57, 2) := by decide +kernel
theorem dL_law_381 : decode cL_law 381 = .ok (.iconst 0, 1) := by decide +kernel
theorem dL_law_382 : decode cL_law 382 = .ok (.iastore, 1) := by decide +kernel
theorem dL_law_383 : decode cL_law 383 = .ok (.dup, 1) := by decide +kernel
theorem dL_law_384 : decode cL_law 384 = .ok (.bipush 58, 2) := by decide +kernel
theorem dL_law_386 : decode cL_law 386 = .ok (.iconst 0, 1) := by decide +kernel
theorem dL_law_387 : decode cL_law 387 = .ok (.iastore, 1) := by decide +kernel
theorem dL_law_388 : decode cL_law 388 = .ok (.dup, 1) := by decide +kernel
theorem dL_law_389 : decode cL_law 389 = .ok (.bipush 59, 2) := by decide +kernel
theorem dL_law_391 : decode cL_law 391 = .ok (.iconst 0, 1) := by decide +kernel
theorem dL_law_392 : decode cL_law 392 = .ok (.iastore, 1) := by decide +kernel
theorem dL_law_393 : decode cL_law 393 = .ok (.dup, 1) := by decide +kernel
theorem dL_law_394 : decode cL_law 394 = .ok (.bipush 60, 2) := by decide +kernel
theorem dL_law_396 : decode cL_law 396 = .ok (.iconst 0, 1) := by decide +kernel
theorem dL_law_397 : decode cL_law 397 = .ok (.iastore, 1) := by decide +kernel
theorem dL_law_398 : decode cL_law 398 = .ok (.dup, 1) := by decide +kernel
theorem dL_law_399 : decode cL_law 399 = .ok (.bipush 61, 2) := by decide +kernel
theorem dL_law_401 : decode cL_law 401 = .ok (.iconst 0, 1) := by decide +kernel
theorem dL_law_402 : decode cL_law 402 = .ok (.iastore, 1) := by decide +kernel
theorem dL_law_403 : decode cL_law 403 = .ok (.dup, 1) := by decide +kernel
theorem dL_law_404 : decode cL_law 404 = .ok (.bipush 62, 2) := by decide +kernel
theorem dL_law_406 : decode cL_law 406 = .ok (.iconst 0, 1) := by decide +kernel
theorem dL_law_407 : decode cL_law 407 = .ok (.iastore, 1) := by decide +kernel
theorem dL_law_408 : decode cL_law 408 = .ok (.dup, 1) := by decide +kernel
theorem dL_law_409 : decode cL_law 409 = .ok (.bipush 63, 2) := by decide +kernel
theorem dL_law_411 : decode cL_law 411 = .ok (.iconst 0, 1) := by decide +kernel
theorem dL_law_412 : decode cL_law 412 = .ok (.iastore, 1) := by decide +kernel
theorem dL_law_413 : decode cL_law 413 = .ok (.astore 5, 2) := by decide +kernel
theorem dL_law_415 : decode cL_law 415 = .ok (.aload_n 1, 1) := by decide +kernel
theorem dL_law_416 : decode cL_law 416 = .ok (.aload_n 0, 1) := by decide +kernel
theorem dL_law_417 : decode cL_law 417 = .ok (.aload_n 3, 1) := by decide +kernel
theorem dL_law_418 : decode cL_law 418 = .ok (.aload 4, 2) := by decide +kernel
theorem dL_law_420 : decode cL_law 420 = .ok (.aload 5, 2) := by decide +kernel
theorem dL_law_422 : decode cL_law 422 = .ok (.invokestatic 162, 3) := by decide +kernel
theorem dL_law_425 : decode cL_law 425 = .ok (.ifCond .eq 20, 3) := by decide +kernel
theorem dL_law_428 : decode cL_law 428 = .ok (.aload_n 2, 1) := by decide +kernel
theorem dL_law_429 : decode cL_law 429 = .ok (.aload_n 0, 1) := by decide +kernel
theorem dL_law_430 : decode cL_law 430 = .ok (.aload_n 3, 1) := by decide +kernel
theorem dL_law_431 : decode cL_law 431 = .ok (.aload 4, 2) := by decide +kernel
theorem dL_law_433 : decode cL_law 433 = .ok (.aload 5, 2) := by decide +kernel
theorem dL_law_435 : decode cL_law 435 = .ok (.invokestatic 162, 3) := by decide +kernel
theorem dL_law_438 : decode cL_law 438 = .ok (.ifCond .eq 7, 3) := by decide +kernel
theorem dL_law_441 : decode cL_law 441 = .ok (.iconst 1, 1) := by decide +kernel
theorem dL_law_442 : decode cL_law 442 = .ok (.goto 4, 3) := by decide +kernel
theorem dL_law_445 : decode cL_law 445 = .ok (.iconst 0, 1) := by decide +kernel
theorem dL_law_446 : decode cL_law 446 = .ok (.istore 6, 2) := by decide +kernel
theorem dL_law_448 : decode cL_law 448 = .ok (.bipush 9, 2) := by decide +kernel
theorem dL_law_450 : decode cL_law 450 = .ok (.istore 7, 2) := by decide +kernel
theorem dL_law_452 : decode cL_law 452 = .ok (.iload 7, 2) := by decide +kernel
theorem dL_law_454 : decode cL_law 454 = .ok (.iconst 1, 1) := by decide +kernel
theorem dL_law_455 : decode cL_law 455 = .ok (.iadd, 1) := by decide +kernel
theorem dL_law_456 : decode cL_law 456 = .ok (.aload_n 0, 1) := by decide +kernel
theorem dL_law_457 : decode cL_law 457 = .ok (.arraylength, 1) := by decide +kernel
theorem dL_law_458 : decode cL_law 458 = .ok (.if_icmp .ge 385, 3) := by decide +kernel
theorem dL_law_461 : decode cL_law 461 = .ok (.iload 7, 2) := by decide +kernel
theorem dL_law_463 : decode cL_law 463 = .ok (.bipush 29, 2) := by decide +kernel
theorem dL_law_465 : decode cL_law 465 = .ok (.if_icmp .ge 378, 3) := by decide +kernel
theorem dL_law_468 : decode cL_law 468 = .ok (.iload 6, 2) := by decide +kernel
theorem dL_law_470 : decode cL_law 470 = .ok (.ifCond .eq 73, 3) := by decide +kernel
theorem dL_law_473 : decode cL_law 473 = .ok (.aload_n 0, 1) := by decide +kernel
theorem dL_law_474 : decode cL_law 474 = .ok (.iload 7, 2) := by decide +kernel
theorem dL_law_476 : decode cL_law 476 = .ok (.iconst 1, 1) := by decide +kernel
theorem dL_law_477 : decode cL_law 477 = .ok (.iadd, 1) := by decide +kernel
theorem dL_law_478 : decode cL_law 478 = .ok (.iaload, 1) := by decide +kernel
theorem dL_law_479 : decode cL_law 479 = .ok (.iconst (-1), 1) := by decide +kernel
theorem dL_law_480 : decode cL_law 480 = .ok (.if_icmp .eq 16, 3) := by decide +kernel
theorem dL_law_483 : decode cL_law 483 = .ok (.aload_n 2, 1) := by decide +kernel
theorem dL_law_484 : decode cL_law 484 = .ok (.aload_n 0, 1) := by decide +kernel
theorem dL_law_485 : decode cL_law 485 = .ok (.iload 7, 2) := by decide +kernel
theorem dL_law_487 : decode cL_law 487 = .ok (.iconst 1, 1) := by decide +kernel
theorem dL_law_488 : decode cL_law 488 = .ok (.iadd, 1) := by decide +kernel
theorem dL_law_489 : decode cL_law 489 = .ok (.iaload, 1) := by decide +kernel
theorem dL_law_490 : decode cL_law 490 = .ok (.invokestatic 166, 3) := by decide +kernel
theorem dL_law_493 : decode cL_law 493 = .ok (.ifCond .eq 50, 3) := by decide +kernel
theorem dL_law_496 : decode cL_law 496 = .ok (.aload_n 1, 1) := by decide +kernel
theorem dL_law_497 : decode cL_law 497 = .ok (.aload_n 0, 1) := by decide +kernel
theorem dL_law_498 : decode cL_law 498 = .ok (.iload 7, 2) := by decide +kernel
theorem dL_law_500 : decode cL_law 500 = .ok (.iaload, 1) := by decide +kernel
theorem dL_law_501 : decode cL_law 501 = .ok (.iconst 1, 1) := by decide +kernel
theorem dL_law_502 : decode cL_law 502 = .ok (.ishr, 1) := by decide +kernel
theorem dL_law_503 : decode cL_law 503 = .ok (.aload_n 0, 1) := by decide +kernel
theorem dL_law_504 : decode cL_law 504 = .ok (.iload 7, 2) := by decide +kernel
theorem dL_law_506 : decode cL_law 506 = .ok (.iconst 1, 1) := by decide +kernel
theorem dL_law_507 : decode cL_law 507 = .ok (.iadd, 1) := by decide +kernel
theorem dL_law_508 : decode cL_law 508 = .ok (.iaload, 1) := by decide +kernel
theorem dL_law_509 : decode cL_law 509 = .ok (.invokestatic 170, 3) := by decide +kernel
theorem dL_law_512 : decode cL_law 512 = .ok (.aload_n 2, 1) := by decide +kernel
theorem dL_law_513 : decode cL_law 513 = .ok (.aload_n 0, 1) := by decide +kernel
theorem dL_law_514 : decode cL_law 514 = .ok (.iload 7, 2) := by decide +kernel
theorem dL_law_516 : decode cL_law 516 = .ok (.iaload, 1) := by decide +kernel
theorem dL_law_517 : decode cL_law 517 = .ok (.iconst 1, 1) := by decide +kernel
theorem dL_law_518 : decode cL_law 518 = .ok (.ishr, 1) := by decide +kernel
theorem dL_law_519 : decode cL_law 519 = .ok (.aload_n 0, 1) := by decide +kernel
theorem dL_law_520 : decode cL_law 520 = .ok (.iload 7, 2) := by decide +kernel
theorem dL_law_522 : decode cL_law 522 = .ok (.iconst 1, 1) := by decide +kernel
theorem dL_law_523 : decode cL_law 523 = .ok (.iadd, 1) := by decide +kernel
theorem dL_law_524 : decode cL_law 524 = .ok (.iaload, 1) := by decide +kernel
theorem dL_law_525 : decode cL_law 525 = .ok (.invokestatic 170, 3) := by decide +kernel
theorem dL_law_528 : decode cL_law 528 = .ok (.if_icmp .ne 15, 3) := by decide +kernel
theorem dL_law_531 : decode cL_law 531 = .ok (.aload_n 1, 1) := by decide +kernel
theorem dL_law_532 : decode cL_law 532 = .ok (.aload_n 2, 1) := by decide +kernel
theorem dL_law_533 : decode cL_law 533 = .ok (.invokestatic 174, 3) := by decide +kernel
theorem dL_law_536 : decode cL_law 536 = .ok (.ifCond .eq 7, 3) := by decide +kernel
theorem dL_law_539 : decode cL_law 539 = .ok (.iconst 1, 1) := by decide +kernel
theorem dL_law_540 : decode cL_law 540 = .ok (.goto 4, 3) := by decide +kernel
theorem dL_law_543 : decode cL_law 543 = .ok (.iconst 0, 1) := by decide +kernel
theorem dL_law_544 : decode cL_law 544 = .ok (.istore 6, 2) := by decide +kernel
theorem dL_law_546 : decode cL_law 546 = .ok (.iconst 0, 1) := by decide +kernel
theorem dL_law_547 : decode cL_law 547 = .ok (.istore 8, 2) := by decide +kernel
theorem dL_law_549 : decode cL_law 549 = .ok (.iconst 0, 1) := by decide +kernel
theorem dL_law_550 : decode cL_law 550 = .ok (.istore 9, 2) := by decide +kernel
theorem dL_law_552 : decode cL_law 552 = .ok (.iconst 0, 1) := by decide +kernel
theorem dL_law_553 : decode cL_law 553 = .ok (.istore 10, 2) := by decide +kernel
theorem dL_law_555 : decode cL_law 555 = .ok (.iload 10, 2) := by decide +kernel
theorem dL_law_557 : decode cL_law 557 = .ok (.bipush 8, 2) := by decide +kernel
theorem dL_law_559 : decode cL_law 559 = .ok (.if_icmp .ge 192, 3) := by decide +kernel
theorem dL_law_562 : decode cL_law 562 = .ok (.iload 8, 2) := by decide +kernel
theorem dL_law_564 : decode cL_law 564 = .ok (.aload_n 1, 1) := by decide +kernel
theorem dL_law_565 : decode cL_law 565 = .ok (.iload 10, 2) := by decide +kernel
theorem dL_law_567 : decode cL_law 567 = .ok (.iconst 3, 1) := by decide +kernel
theorem dL_law_568 : decode cL_law 568 = .ok (.invokevirtual 142, 3) := by decide +kernel
theorem dL_law_571 : decode cL_law 571 = .ok (.iadd, 1) := by decide +kernel
theorem dL_law_572 : decode cL_law 572 = .ok (.istore 8, 2) := by decide +kernel
theorem dL_law_574 : decode cL_law 574 = .ok (.iload 9, 2) := by decide +kernel
theorem dL_law_576 : decode cL_law 576 = .ok (.aload_n 1, 1) := by decide +kernel
theorem dL_law_577 : decode cL_law 577 = .ok (.iload 10, 2) := by decide +kernel
theorem dL_law_579 : decode cL_law 579 = .ok (.iconst 4, 1) := by decide +kernel
theorem dL_law_580 : decode cL_law 580 = .ok (.invokevirtual 142, 3) := by decide +kernel
theorem dL_law_583 : decode cL_law 583 = .ok (.iadd, 1) := by decide +kernel
theorem dL_law_584 : decode cL_law 584 = .ok (.istore 9, 2) := by decide +kernel
theorem dL_law_586 : decode cL_law 586 = .ok (.iload 6, 2) := by decide +kernel
theorem dL_law_588 : decode cL_law 588 = .ok (.ifCond .eq 48, 3) := by decide +kernel
theorem dL_law_591 : decode cL_law 591 = .ok (.aload_n 1, 1) := by decide +kernel
theorem dL_law_592 : decode cL_law 592 = .ok (.iload 10, 2) := by decide +kernel
theorem dL_law_594 : decode cL_law 594 = .ok (.iconst 2, 1) := by decide +kernel
theorem dL_law_595 : decode cL_law 595 = .ok (.invokevirtual 142, 3) := by decide +kernel
theorem dL_law_598 : decode cL_law 598 = .ok (.aload_n 1, 1) := by decide +kernel
theorem dL_law_599 : decode cL_law 599 = .ok (.iload 10, 2) := by decide +kernel
theorem dL_law_601 : decode cL_law 601 = .ok (.iconst 3, 1) := by decide +kernel
theorem dL_law_602 : decode cL_law 602 = .ok (.invokevirtual 142, 3) := by decide +kernel
theorem dL_law_605 : decode cL_law 605 = .ok (.iadd, 1) := by decide +kernel
theorem dL_law_606 : decode cL_law 606 = .ok (.aload_n 1, 1) := by decide +kernel
theorem dL_law_607 : decode cL_law 607 = .ok (.iload 10, 2) := by decide +kernel
theorem dL_law_609 : decode cL_law 609 = .ok (.iconst 0, 1) := by decide +kernel
theorem dL_law_610 : decode cL_law 610 = .ok (.invokevirtual 142, 3) := by decide +kernel
theorem dL_law_613 : decode cL_law 613 = .ok (.aload_n 1, 1) := by decide +kernel
theorem dL_law_614 : decode cL_law 614 = .ok (.iload 10, 2) := by decide +kernel
theorem dL_law_616 : decode cL_law 616 = .ok (.iconst 1, 1) := by decide +kernel
theorem dL_law_617 : decode cL_law 617 = .ok (.invokevirtual 142, 3) := by decide +kernel
theorem dL_law_620 : decode cL_law 620 = .ok (.iadd, 1) := by decide +kernel
theorem dL_law_621 : decode cL_law 621 = .ok (.aload_n 1, 1) := by decide +kernel
theorem dL_law_622 : decode cL_law 622 = .ok (.iload 10, 2) := by decide +kernel
theorem dL_law_624 : decode cL_law 624 = .ok (.iconst 4, 1) := by decide +kernel
theorem dL_law_625 : decode cL_law 625 = .ok (.invokevirtual 142, 3) := by decide +kernel
theorem dL_law_628 : decode cL_law 628 = .ok (.iadd, 1) := by decide +kernel
theorem dL_law_629 : decode cL_law 629 = .ok (.if_icmp .ne 7, 3) := by decide +kernel
theorem dL_law_632 : decode cL_law 632 = .ok (.iconst 1, 1) := by decide +kernel
theorem dL_law_633 : decode cL_law 633 = .ok (.goto 4, 3) := by decide +kernel
theorem dL_law_636 : decode cL_law 636 = .ok (.iconst 0, 1) := by decide +kernel
theorem dL_law_637 : decode cL_law 637 = .ok (.istore 6, 2) := by decide +kernel
theorem dL_law_639 : decode cL_law 639 = .ok (.iconst 0, 1) := by decide +kernel
theorem dL_law_640 : decode cL_law 640 = .ok (.istore 11, 2) := by decide +kernel
theorem dL_law_642 : decode cL_law 642 = .ok (.iload 11, 2) := by decide +kernel
theorem dL_law_644 : decode cL_law 644 = .ok (.bipush 8, 2) := by decide +kernel
theorem dL_law_646 : decode cL_law 646 = .ok (.if_icmp .ge 99, 3) := by decide +kernel
theorem dL_law_649 : decode cL_law 649 = .ok (.aload_n 1, 1) := by decide +kernel
theorem dL_law_650 : decode cL_law 650 = .ok (.iload 10, 2) := by decide +kernel
theorem dL_law_652 : decode cL_law 652 = .ok (.iconst 2, 1) := by decide +kernel
theorem dL_law_653 : decode cL_law 653 = .ok (.iload 11, 2) := by decide +kernel
theorem dL_law_655 : decode cL_law 655 = .ok (.invokevirtual 70, 3) := by decide +kernel
theorem dL_law_658 : decode cL_law 658 = .ok (.istore 12, 2) := by decide +kernel
theorem dL_law_660 : decode cL_law 660 = .ok (.iload 6, 2) := by decide +kernel
theorem dL_law_662 : decode cL_law 662 = .ok (.ifCond .eq 74, 3) := by decide +kernel
theorem dL_law_665 : decode cL_law 665 = .ok (.iload 10, 2) := by decide +kernel
theorem dL_law_667 : decode cL_law 667 = .ok (.iload 11, 2) := by decide +kernel
theorem dL_law_669 : decode cL_law 669 = .ok (.if_icmp .eq 24, 3) := by decide +kernel
theorem dL_law_672 : decode cL_law 672 = .ok (.aload_n 1, 1) := by decide +kernel
theorem dL_law_673 : decode cL_law 673 = .ok (.iload 10, 2) := by decide +kernel
theorem dL_law_675 : decode cL_law 675 = .ok (.iload 11, 2) := by decide +kernel
theorem dL_law_677 : decode cL_law 677 = .ok (.iconst 1, 1) := by decide +kernel
theorem dL_law_678 : decode cL_law 678 = .ok (.invokevirtual 120, 3) := by decide +kernel
theorem dL_law_681 : decode cL_law 681 = .ok (.aload_n 1, 1) := by decide +kernel
theorem dL_law_682 : decode cL_law 682 = .ok (.iload 11, 2) := by decide +kernel
theorem dL_law_684 : decode cL_law 684 = .ok (.iload 10, 2) := by decide +kernel
theorem dL_law_686 : decode cL_law 686 = .ok (.iconst 1, 1) := by decide +kernel
theorem dL_law_687 : decode cL_law 687 = .ok (.invokevirtual 120, 3) := by decide +kernel
theorem dL_law_690 : decode cL_law 690 = .ok (.if_icmp .ne 46, 3) := by decide +kernel
theorem dL_law_693 : decode cL_law 693 = .ok (.iload 12, 2) := by decide +kernel
theorem dL_law_695 : decode cL_law 695 = .ok (.ifCond .lt 37, 3) := by decide +kernel
theorem dL_law_698 : decode cL_law 698 = .ok (.aload_n 1, 1) := by decide +kernel
theorem dL_law_699 : decode cL_law 699 = .ok (.iload 10, 2) := by decide +kernel
theorem dL_law_701 : decode cL_law 701 = .ok (.iload 12, 2) := by decide +kernel
theorem dL_law_703 : decode cL_law 703 = .ok (.iconst 2, 1) := by decide +kernel
theorem dL_law_704 : decode cL_law 704 = .ok (.invokevirtual 67, 3) := by decide +kernel
theorem dL_law_707 : decode cL_law 707 = .ok (.aload_n 1, 1) := by decide +kernel
theorem dL_law_708 : decode cL_law 708 = .ok (.iload 10, 2) := by decide +kernel
theorem dL_law_710 : decode cL_law 710 = .ok (.iload 11, 2) := by decide +kernel
theorem dL_law_712 : decode cL_law 712 = .ok (.iconst 2, 1) := by decide +kernel
theorem dL_law_713 : decode cL_law 713 = .ok (.invokevirtual 67, 3) := by decide +kernel
theorem dL_law_716 : decode cL_law 716 = .ok (.if_icmp .ge 20, 3) := by decide +kernel
theorem dL_law_719 : decode cL_law 719 = .ok (.aload_n 1, 1) := by decide +kernel
theorem dL_law_720 : decode cL_law 720 = .ok (.iload 12, 2) := by decide +kernel
theorem dL_law_722 : decode cL_law 722 = .ok (.iload 11, 2) := by decide +kernel
theorem dL_law_724 : decode cL_law 724 = .ok (.iconst 0, 1) := by decide +kernel
theorem dL_law_725 : decode cL_law 725 = .ok (.invokevirtual 120, 3) := by decide +kernel
theorem dL_law_728 : decode cL_law 728 = .ok (.iconst 1, 1) := by decide +kernel
theorem dL_law_729 : decode cL_law 729 = .ok (.if_icmp .ne 7, 3) := by decide +kernel
theorem dL_law_732 : decode cL_law 732 = .ok (.iconst 1, 1) := by decide +kernel
theorem dL_law_733 : decode cL_law 733 = .ok (.goto 4, 3) := by decide +kernel
theorem dL_law_736 : decode cL_law 736 = .ok (.iconst 0, 1) := by decide +kernel
theorem dL_law_737 : decode cL_law 737 = .ok (.istore 6, 2) := by decide +kernel
theorem dL_law_739 : decode cL_law 739 = .ok (.iinc 11 1, 3) := by decide +kernel
theorem dL_law_742 : decode cL_law 742 = .ok (.goto (-100), 3) := by decide +kernel
theorem dL_law_745 : decode cL_law 745 = .ok (.iinc 10 1, 3) := by decide +kernel
theorem dL_law_748 : decode cL_law 748 = .ok (.goto (-193), 3) := by decide +kernel
theorem dL_law_751 : decode cL_law 751 = .ok (.iload 6, 2) := by decide +kernel
theorem dL_law_753 : decode cL_law 753 = .ok (.ifCond .eq 81, 3) := by decide +kernel
theorem dL_law_756 : decode cL_law 756 = .ok (.iload 8, 2) := by decide +kernel
theorem dL_law_758 : decode cL_law 758 = .ok (.iload 9, 2) := by decide +kernel
theorem dL_law_760 : decode cL_law 760 = .ok (.if_icmp .ne 74, 3) := by decide +kernel
theorem dL_law_763 : decode cL_law 763 = .ok (.aload_n 1, 1) := by decide +kernel
theorem dL_law_764 : decode cL_law 764 = .ok (.iconst 0, 1) := by decide +kernel
theorem dL_law_765 : decode cL_law 765 = .ok (.invokevirtual 77, 3) := by decide +kernel
theorem dL_law_768 : decode cL_law 768 = .ok (.bipush (-2), 2) := by decide +kernel
theorem dL_law_770 : decode cL_law 770 = .ok (.if_icmp .ne 18, 3) := by decide +kernel
theorem dL_law_773 : decode cL_law 773 = .ok (.aload_n 1, 1) := by decide +kernel
theorem dL_law_774 : decode cL_law 774 = .ok (.iconst 2, 1) := by decide +kernel
theorem dL_law_775 : decode cL_law 775 = .ok (.invokevirtual 77, 3) := by decide +kernel
theorem dL_law_778 : decode cL_law 778 = .ok (.aload_n 1, 1) := by decide +kernel
theorem dL_law_779 : decode cL_law 779 = .ok (.invokevirtual 152, 3) := by decide +kernel
theorem dL_law_782 : decode cL_law 782 = .ok (.if_icmp .ne 52, 3) := by decide +kernel
theorem dL_law_785 : decode cL_law 785 = .ok (.goto 15, 3) := by decide +kernel
theorem dL_law_788 : decode cL_law 788 = .ok (.aload_n 1, 1) := by decide +kernel
theorem dL_law_789 : decode cL_law 789 = .ok (.iconst 2, 1) := by decide +kernel
theorem dL_law_790 : decode cL_law 790 = .ok (.invokevirtual 77, 3) := by decide +kernel
theorem dL_law_793 : decode cL_law 793 = .ok (.aload_n 1, 1) := by decide +kernel
theorem dL_law_794 : decode cL_law 794 = .ok (.invokevirtual 152, 3) := by decide +kernel
theorem dL_law_797 : decode cL_law 797 = .ok (.if_icmp .ge 37, 3) := by decide +kernel
theorem dL_law_800 : decode cL_law 800 = .ok (.aload_n 1, 1) := by decide +kernel
theorem dL_law_801 : decode cL_law 801 = .ok (.invokevirtual 178, 3) := by decide +kernel
theorem dL_law_804 : decode cL_law 804 = .ok (.aload_n 1, 1) := by decide +kernel
theorem dL_law_805 : decode cL_law 805 = .ok (.invokevirtual 155, 3) := by decide +kernel
theorem dL_law_808 : decode cL_law 808 = .ok (.invokestatic 181, 3) := by decide +kernel
theorem dL_law_811 : decode cL_law 811 = .ok (.if_icmp .gt 23, 3) := by decide +kernel
theorem dL_law_814 : decode cL_law 814 = .ok (.iconst 2, 1) := by decide +kernel
theorem dL_law_815 : decode cL_law 815 = .ok (.aload_n 1, 1) := by decide +kernel
theorem dL_law_816 : decode cL_law 816 = .ok (.invokevirtual 178, 3) := by decide +kernel
theorem dL_law_819 : decode cL_law 819 = .ok (.imul, 1) := by decide +kernel
theorem dL_law_820 : decode cL_law 820 = .ok (.aload_n 1, 1) := by decide +kernel
theorem dL_law_821 : decode cL_law 821 = .ok (.invokevirtual 155, 3) := by decide +kernel
theorem dL_law_824 : decode cL_law 824 = .ok (.invokestatic 181, 3) := by decide +kernel
theorem dL_law_827 : decode cL_law 827 = .ok (.if_icmp .lt 7, 3) := by decide +kernel
theorem dL_law_830 : decode cL_law 830 = .ok (.iconst 1, 1) := by decide +kernel
theorem dL_law_831 : decode cL_law 831 = .ok (.goto 4, 3) := by decide +kernel
theorem dL_law_834 : decode cL_law 834 = .ok (.iconst 0, 1) := by decide +kernel
theorem dL_law_835 : decode cL_law 835 = .ok (.istore 6, 2) := by decide +kernel
theorem dL_law_837 : decode cL_law 837 = .ok (.iinc 7 2, 3) := by decide +kernel
theorem dL_law_840 : decode cL_law 840 = .ok (.goto (-388), 3) := by decide +kernel
theorem dL_law_843 : decode cL_law 843 = .ok (.iload 6, 2) := by decide +kernel
theorem dL_law_845 : decode cL_law 845 = .ok (.ireturn, 1) := by decide +kernel
