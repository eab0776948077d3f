theorem dX12_init_0 : decode cX12_init 0 = .ok (.aload_n 0, 1) := by decide +kernel
theorem dX12_init_1 : decode cX12_init 1 = .ok (.invokespecial 1, 3) := by decide +kernel
theorem dX12_init_4 : decode cX12_init 4 = .ok (.aload_n 0, 1) := by decide +kernel
theorem dX12_init_5 : decode cX12_init 5 = .ok (.bipush 16, 2) := by decide +kernel
theorem dX12_init_7 : decode cX12_init 7 = .ok (.newarray .int, 2) := by decide +kernel
theorem dX12_init_9 : decode cX12_init 9 = .ok (.putfield 7, 3) := by decide +kernel
theorem dX12_init_12 : decode cX12_init 12 = .ok (.aload_n 0, 1) := by decide +kernel
theorem dX12_init_13 : decode cX12_init 13 = .ok (.bipush 16, 2) := by decide +kernel
theorem dX12_init_15 : decode cX12_init 15 = .ok (.newarray .int, 2) := by decide +kernel
theorem dX12_init_17 : decode cX12_init 17 = .ok (.putfield 13, 3) := by decide +kernel
theorem dX12_init_20 : decode cX12_init 20 = .ok (.aload_n 0, 1) := by decide +kernel
theorem dX12_init_21 : decode cX12_init 21 = .ok (.sipush 256, 3) := by decide +kernel
theorem dX12_init_24 : decode cX12_init 24 = .ok (.newarray .int, 2) := by decide +kernel
theorem dX12_init_26 : decode cX12_init 26 = .ok (.putfield 16, 3) := by decide +kernel
theorem dX12_init_29 : decode cX12_init 29 = .ok (.aload_n 0, 1) := by decide +kernel
theorem dX12_init_30 : decode cX12_init 30 = .ok (.bipush 16, 2) := by decide +kernel
theorem dX12_init_32 : decode cX12_init 32 = .ok (.newarray .int, 2) := by decide +kernel
theorem dX12_init_34 : decode cX12_init 34 = .ok (.putfield 19, 3) := by decide +kernel
theorem dX12_init_37 : decode cX12_init 37 = .ok (.aload_n 0, 1) := by decide +kernel
theorem dX12_init_38 : decode cX12_init 38 = .ok (.sipush 220, 3) := by decide +kernel
theorem dX12_init_41 : decode cX12_init 41 = .ok (.newarray .byte, 2) := by decide +kernel
theorem dX12_init_43 : decode cX12_init 43 = .ok (.putfield 22, 3) := by decide +kernel
theorem dX12_init_46 : decode cX12_init 46 = .ok (.aload_n 0, 1) := by decide +kernel
theorem dX12_init_47 : decode cX12_init 47 = .ok (.sipush 220, 3) := by decide +kernel
theorem dX12_init_50 : decode cX12_init 50 = .ok (.newarray .int, 2) := by decide +kernel
theorem dX12_init_52 : decode cX12_init 52 = .ok (.putfield 26, 3) := by decide +kernel
theorem dX12_init_55 : decode cX12_init 55 = .ok (.aload_n 0, 1) := by decide +kernel
theorem dX12_init_56 : decode cX12_init 56 = .ok (.sipush 220, 3) := by decide +kernel
theorem dX12_init_59 : decode cX12_init 59 = .ok (.newarray .int, 2) := by decide +kernel
theorem dX12_init_61 : decode cX12_init 61 = .ok (.putfield 29, 3) := by decide +kernel
theorem dX12_init_64 : decode cX12_init 64 = .ok (.aload_n 0, 1) := by decide +kernel
theorem dX12_init_65 : decode cX12_init 65 = .ok (.bipush 14, 2) := by decide +kernel
theorem dX12_init_67 : decode cX12_init 67 = .ok (.newarray .int, 2) := by decide +kernel
theorem dX12_init_69 : decode cX12_init 69 = .ok (.putfield 32, 3) := by decide +kernel
theorem dX12_init_72 : decode cX12_init 72 = .ok (.aload_n 0, 1) := by decide +kernel
theorem dX12_init_73 : decode cX12_init 73 = .ok (.bipush 14, 2) := by decide +kernel
theorem dX12_init_75 : decode cX12_init 75 = .ok (.newarray .int, 2) := by decide +kernel
theorem dX12_init_77 : decode cX12_init 77 = .ok (.putfield 35, 3) := by decide +kernel
theorem dX12_init_80 : decode cX12_init 80 = .ok (.aload_n 0, 1) := by decide +kernel
theorem dX12_init_81 : decode cX12_init 81 = .ok (.bipush 14, 2) := by decide +kernel
theorem dX12_init_83 : decode cX12_init 83 = .ok (.newarray .int, 2) := by decide +kernel
theorem dX12_init_85 : decode cX12_init 85 = .ok (.putfield 38, 3) := by decide +kernel
theorem dX12_init_88 : decode cX12_init 88 = .ok (.aload_n 0, 1) := by decide +kernel
theorem dX12_init_89 : decode cX12_init 89 = .ok (.bipush 14, 2) := by decide +kernel
theorem dX12_init_91 : decode cX12_init 91 = .ok (.newarray .int, 2) := by decide +kernel
theorem dX12_init_93 : decode cX12_init 93 = .ok (.putfield 41, 3) := by decide +kernel
theorem dX12_init_96 : decode cX12_init 96 = .ok (.aload_n 0, 1) := by decide +kernel
theorem dX12_init_97 : decode cX12_init 97 = .ok (.sipush 220, 3) := by decide +kernel
theorem dX12_init_100 : decode cX12_init 100 = .ok (.newarray .int, 2) := by decide +kernel
theorem dX12_init_102 : decode cX12_init 102 = .ok (.putfield 44, 3) := by decide +kernel
theorem dX12_init_105 : decode cX12_init 105 = .ok (.aload_n 0, 1) := by decide +kernel
theorem dX12_init_106 : decode cX12_init 106 = .ok (.bipush 14, 2) := by decide +kernel
theorem dX12_init_108 : decode cX12_init 108 = .ok (.newarray .int, 2) := by decide +kernel
theorem dX12_init_110 : decode cX12_init 110 = .ok (.putfield 47, 3) := by decide +kernel
theorem dX12_init_113 : decode cX12_init 113 = .ok (.aload_n 0, 1) := by decide +kernel
theorem dX12_init_114 : decode cX12_init 114 = .ok (.bipush 14, 2) := by decide +kernel
theorem dX12_init_116 : decode cX12_init 116 = .ok (.newarray .int, 2) := by decide +kernel
theorem dX12_init_118 : decode cX12_init 118 = .ok (.putfield 50, 3) := by decide +kernel
theorem dX12_init_121 : decode cX12_init 121 = .ok (.aload_n 0, 1) := by decide +kernel
theorem dX12_init_122 : decode cX12_init 122 = .ok (.bipush 14, 2) := by decide +kernel
theorem dX12_init_124 : decode cX12_init 124 = .ok (.newarray .int, 2) := by decide +kernel
theorem dX12_init_126 : decode cX12_init 126 = .ok (.putfield 53, 3) := by decide +kernel
theorem dX12_init_129 : decode cX12_init 129 = .ok (.aload_n 0, 1) := by decide +kernel
theorem dX12_init_130 : decode cX12_init 130 = .ok (.bipush 14, 2) := by decide +kernel
theorem dX12_init_132 : decode cX12_init 132 = .ok (.newarray .int, 2) := by decide +kernel
theorem dX12_init_134 : decode cX12_init 134 = .ok (.putfield 56, 3) := by decide +kernel
theorem dX12_init_137 : decode cX12_init 137 = .ok (.aload_n 0, 1) := by decide +kernel
theorem dX12_init_138 : decode cX12_init 138 = .ok (.sipush 220, 3) := by decide +kernel
theorem dX12_init_141 : decode cX12_init 141 = .ok (.newarray .int, 2) := by decide +kernel
theorem dX12_init_143 : decode cX12_init 143 = .ok (.putfield 59, 3) := by decide +kernel
theorem dX12_init_146 : decode cX12_init 146 = .ok (.aload_n 0, 1) := by decide +kernel
theorem dX12_init_147 : decode cX12_init 147 = .ok (.bipush 10, 2) := by decide +kernel
theorem dX12_init_149 : decode cX12_init 149 = .ok (.newarray .int, 2) := by decide +kernel
theorem dX12_init_151 : decode cX12_init 151 = .ok (.putfield 62, 3) := by decide +kernel
theorem dX12_init_154 : decode cX12_init 154 = .ok (.aload_n 0, 1) := by decide +kernel
theorem dX12_init_155 : decode cX12_init 155 = .ok (.bipush 10, 2) := by decide +kernel
theorem dX12_init_157 : decode cX12_init 157 = .ok (.newarray .int, 2) := by decide +kernel
theorem dX12_init_159 : decode cX12_init 159 = .ok (.putfield 65, 3) := by decide +kernel
theorem dX12_init_162 : decode cX12_init 162 = .ok (.aload_n 0, 1) := by decide +kernel
theorem dX12_init_163 : decode cX12_init 163 = .ok (.bipush 10, 2) := by decide +kernel
theorem dX12_init_165 : decode cX12_init 165 = .ok (.newarray .int, 2) := by decide +kernel
theorem dX12_init_167 : decode cX12_init 167 = .ok (.putfield 68, 3) := by decide +kernel
theorem dX12_init_170 : decode cX12_init 170 = .ok (.aload_n 0, 1) := by decide +kernel
theorem dX12_init_171 : decode cX12_init 171 = .ok (.bipush 10, 2) := by decide +kernel
theorem dX12_init_173 : decode cX12_init 173 = .ok (.newarray .int, 2) := by decide +kernel
theorem dX12_init_175 : decode cX12_init 175 = .ok (.putfield 71, 3) := by decide +kernel
theorem dX12_init_178 : decode cX12_init 178 = .ok (.aload_n 0, 1) := by decide +kernel
theorem dX12_init_179 : decode cX12_init 179 = .ok (.bipush 10, 2) := by decide +kernel
theorem dX12_init_181 : decode cX12_init 181 = .ok (.newarray .int, 2) := by decide +kernel
theorem dX12_init_183 : decode cX12_init 183 = .ok (.putfield 74, 3) := by decide +kernel
theorem dX12_init_186 : decode cX12_init 186 = .ok (.aload_n 0, 1) := by decide +kernel
theorem dX12_init_187 : decode cX12_init 187 = .ok (.bipush 10, 2) := by decide +kernel
theorem dX12_init_189 : decode cX12_init 189 = .ok (.newarray .int, 2) := by decide +kernel
theorem dX12_init_191 : decode cX12_init 191 = .ok (.putfield 77, 3) := by decide +kernel
theorem dX12_init_194 : decode cX12_init 194 = .ok (.aload_n 0, 1) := by decide +kernel
theorem dX12_init_195 : decode cX12_init 195 = .ok (.bipush 10, 2) := by decide +kernel
theorem dX12_init_197 : decode cX12_init 197 = .ok (.newarray .int, 2) := by decide +kernel
theorem dX12_init_199 : decode cX12_init 199 = .ok (.putfield 80, 3) := by decide +kernel
theorem dX12_init_202 : decode cX12_init 202 = .ok (.aload_n 0, 1) := by decide +kernel
theorem dX12_init_203 : decode cX12_init 203 = .ok (.bipush 16, 2) := by decide +kernel
theorem dX12_init_205 : decode cX12_init 205 = .ok (.newarray .int, 2) := by decide +kernel
theorem dX12_init_207 : decode cX12_init 207 = .ok (.putfield 83, 3) := by decide +kernel
theorem dX12_init_210 : decode cX12_init 210 = .ok (.aload_n 0, 1) := by decide +kernel
theorem dX12_init_211 : decode cX12_init 211 = .ok (.bipush 16, 2) := by decide +kernel
theorem dX12_init_213 : decode cX12_init 213 = .ok (.newarray .int, 2) := by decide +kernel
theorem dX12_init_215 : decode cX12_init 215 = .ok (.putfield 86, 3) := by decide +kernel
theorem dX12_init_218 : decode cX12_init 218 = .ok (.aload_n 0, 1) := by decide +kernel
theorem dX12_init_219 : decode cX12_init 219 = .ok (.bipush 7, 2) := by decide +kernel
theorem dX12_init_221 : decode cX12_init 221 = .ok (.newarray .int, 2) := by decide +kernel
theorem dX12_init_223 : decode cX12_init 223 = .ok (.putfield 89, 3) := by decide +kernel
theorem dX12_init_226 : decode cX12_init 226 = .ok (.aload_n 0, 1) := by decide +kernel
theorem dX12_init_227 : decode cX12_init 227 = .ok (.bipush 7, 2) := by decide +kernel
theorem dX12_init_229 : decode cX12_init 229 = .ok (.newarray .int, 2) := by decide +kernel
theorem dX12_init_231 : decode cX12_init 231 = .ok (.putfield 92, 3) := by decide +kernel
theorem dX12_init_234 : decode cX12_init 234 = .ok (.aload_n 0, 1) := by decide +kernel
theorem dX12_init_235 : decode cX12_init 235 = .ok (.bipush 7, 2) := by decide +kernel
theorem dX12_init_237 : decode cX12_init 237 = .ok (.newarray .int, 2) := by decide +kernel
theorem dX12_init_239 : decode cX12_init 239 = .ok (.putfield 95, 3) := by decide +kernel
theorem dX12_init_242 : decode cX12_init 242 = .ok (.aload_n 0, 1) := by decide +kernel
theorem dX12_init_243 : decode cX12_init 243 = .ok (.bipush 16, 2) := by decide +kernel
theorem dX12_init_245 : decode cX12_init 245 = .ok (.newarray .int, 2) := by decide +kernel
theorem dX12_init_247 : decode cX12_init 247 = .ok (.putfield 98, 3) := by decide +kernel
theorem dX12_init_250 : decode cX12_init 250 = .ok (.aload_n 0, 1) := by decide +kernel
theorem dX12_init_251 : decode cX12_init 251 = .ok (.bipush 40, 2) := by decide +kernel
theorem dX12_init_253 : decode cX12_init 253 = .ok (.newarray .int, 2) := by decide +kernel
theorem dX12_init_255 : decode cX12_init 255 = .ok (.putfield 101, 3) := by decide +kernel
theorem dX12_init_258 : decode cX12_init 258 = .ok (.aload_n 0, 1) := by decide +kernel
theorem dX12_init_259 : decode cX12_init 259 = .ok (.bipush 20, 2) := by decide +kernel
theorem dX12_init_261 : decode cX12_init 261 = .ok (.newarray .int, 2) := by decide +kernel
theorem dX12_init_263 : decode cX12_init 263 = .ok (.putfield 104, 3) := by decide +kernel
theorem dX12_init_266 : decode cX12_init 266 = .ok (.aload_n 0, 1) := by decide +kernel
theorem dX12_init_267 : decode cX12_init 267 = .ok (.bipush 20, 2) := by decide +kernel
theorem dX12_init_269 : decode cX12_init 269 = .ok (.newarray .int, 2) := by decide +kernel
theorem dX12_init_271 : decode cX12_init 271 = .ok (.putfield 107, 3) := by decide +kernel
theorem dX12_init_274 : decode cX12_init 274 = .ok (.aload_n 0, 1) := by decide +kernel
theorem dX12_init_275 : decode cX12_init 275 = .ok (.bipush 20, 2) := by decide +kernel
theorem dX12_init_277 : decode cX12_init 277 = .ok (.newarray .int, 2) := by decide +kernel
theorem dX12_init_279 : decode cX12_init 279 = .ok (.putfield 110, 3) := by decide +kernel
theorem dX12_init_282 : decode cX12_init 282 = .ok (.aload_n 0, 1) := by decide +kernel
theorem dX12_init_283 : decode cX12_init 283 = .ok (.bipush 20, 2) := by decide +kernel
theorem dX12_init_285 : decode cX12_init 285 = .ok (.newarray .int, 2) := by decide +kernel
theorem dX12_init_287 : decode cX12_init 287 = .ok (.putfield 113, 3) := by decide +kernel
theorem dX12_init_290 : decode cX12_init 290 = .ok (.aload_n 0, 1) := by decide +kernel
theorem dX12_init_291 : decode cX12_init 291 = .ok (.bipush 21, 2) := by decide +kernel
theorem dX12_init_293 : decode cX12_init 293 = .ok (.newarray .int, 2) := by decide +kernel
theorem dX12_init_295 : decode cX12_init 295 = .ok (.putfield 116, 3) := by decide +kernel
theorem dX12_init_298 : decode cX12_init 298 = .ok (.aload_n 0, 1) := by decide +kernel
theorem dX12_init_299 : decode cX12_init 299 = .ok (.bipush 21, 2) := by decide +kernel
theorem dX12_init_301 : decode cX12_init 301 = .ok (.newarray .int, 2) := by decide +kernel
theorem dX12_init_303 : decode cX12_init 303 = .ok (.putfield 119, 3) := by decide +kernel
theorem dX12_init_306 : decode cX12_init 306 = .ok (.aload_n 0, 1) := by decide +kernel
theorem dX12_init_307 : decode cX12_init 307 = .ok (.bipush 16, 2) := by decide +kernel
theorem dX12_init_309 : decode cX12_init 309 = .ok (.newarray .int, 2) := by decide +kernel
theorem dX12_init_311 : decode cX12_init 311 = .ok (.putfield 122, 3) := by decide +kernel
theorem dX12_init_314 : decode cX12_init 314 = .ok (.aload_n 0, 1) := by decide +kernel
theorem dX12_init_315 : decode cX12_init 315 = .ok (.bipush 16, 2) := by decide +kernel
theorem dX12_init_317 : decode cX12_init 317 = .ok (.newarray .int, 2) := by decide +kernel
theorem dX12_init_319 : decode cX12_init 319 = .ok (.putfield 125, 3) := by decide +kernel
theorem dX12_init_322 : decode cX12_init 322 = .ok (.aload_n 0, 1) := by decide +kernel
theorem dX12_init_323 : decode cX12_init 323 = .ok (.bipush 16, 2) := by decide +kernel
theorem dX12_init_325 : decode cX12_init 325 = .ok (.newarray .int, 2) := by decide +kernel
theorem dX12_init_327 : decode cX12_init 327 = .ok (.putfield 128, 3) := by decide +kernel
theorem dX12_init_330 : decode cX12_init 330 = .ok (.aload_n 0, 1) := by decide +kernel
theorem dX12_init_331 : decode cX12_init 331 = .ok (.bipush 16, 2) := by decide +kernel
theorem dX12_init_333 : decode cX12_init 333 = .ok (.newarray .int, 2) := by decide +kernel
theorem dX12_init_335 : decode cX12_init 335 = .ok (.putfield 131, 3) := by decide +kernel
theorem dX12_init_338 : decode cX12_init 338 = .ok (.aload_n 0, 1) := by decide +kernel
theorem dX12_init_339 : decode cX12_init 339 = .ok (.bipush 16, 2) := by decide +kernel
theorem dX12_init_341 : decode cX12_init 341 = .ok (.newarray .int, 2) := by decide +kernel
theorem dX12_init_343 : decode cX12_init 343 = .ok (.putfield 134, 3) := by decide +kernel
theorem dX12_init_346 : decode cX12_init 346 = .ok (.aload_n 0, 1) := by decide +kernel
theorem dX12_init_347 : decode cX12_init 347 = .ok (.sipush 256, 3) := by decide +kernel
theorem dX12_init_350 : decode cX12_init 350 = .ok (.newarray .int, 2) := by decide +kernel
theorem dX12_init_352 : decode cX12_init 352 = .ok (.putfield 137, 3) := by decide +kernel
theorem dX12_init_355 : decode cX12_init 355 = .ok (.aload_n 0, 1) := by decide +kernel
theorem dX12_init_356 : decode cX12_init 356 = .ok (.bipush 16, 2) := by decide +kernel
theorem dX12_init_358 : decode cX12_init 358 = .ok (.newarray .int, 2) := by decide +kernel
theorem dX12_init_360 : decode cX12_init 360 = .ok (.putfield 140, 3) := by decide +kernel
theorem dX12_init_363 : decode cX12_init 363 = .ok (.aload_n 0, 1) := by decide +kernel
theorem dX12_init_364 : decode cX12_init 364 = .ok (.bipush 40, 2) := by decide +kernel
theorem dX12_init_366 : decode cX12_init 366 = .ok (.newarray .int, 2) := by decide +kernel
theorem dX12_init_368 : decode cX12_init 368 = .ok (.putfield 143, 3) := by decide +kernel
theorem dX12_init_371 : decode cX12_init 371 = .ok (.aload_n 0, 1) := by decide +kernel
theorem dX12_init_372 : decode cX12_init 372 = .ok (.bipush 16, 2) := by decide +kernel
theorem dX12_init_374 : decode cX12_init 374 = .ok (.newarray .int, 2) := by decide +kernel
theorem dX12_init_376 : decode cX12_init 376 = .ok (.putfield 146, 3) := by decide +kernel
theorem dX12_init_379 : decode cX12_init 379 = .ok (.aload_n 0, 1) := by decide +kernel
theorem dX12_init_380 : decode cX12_init 380 = .ok (.bipush 16, 2) := by decide +kernel
theorem dX12_init_382 : decode cX12_init 382 = .ok (.newarray .int, 2) := by decide +kernel
theorem dX12_init_384 : decode cX12_init 384 = .ok (.putfield 149, 3) := by decide +kernel
theorem dX12_init_387 : decode cX12_init 387 = .ok (.aload_n 0, 1) := by decide +kernel
theorem dX12_init_388 : decode cX12_init 388 = .ok (.bipush 16, 2) := by decide +kernel
theorem dX12_init_390 : decode cX12_init 390 = .ok (.newarray .int, 2) := by decide +kernel
theorem dX12_init_392 : decode cX12_init 392 = .ok (.putfield 152, 3) := by decide +kernel
theorem dX12_init_395 : decode cX12_init 395 = .ok (.aload_n 0, 1) := by decide +kernel
theorem dX12_init_396 : decode cX12_init 396 = .ok (.bipush 16, 2) := by decide +kernel
theorem dX12_init_398 : decode cX12_init 398 = .ok (.newarray .int, 2) := by decide +kernel
theorem dX12_init_400 : decode cX12_init 400 = .ok (.putfield 155, 3) := by decide +kernel
theorem dX12_init_403 : decode cX12_init 403 = .ok (.aload_n 0, 1) := by decide +kernel
theorem dX12_init_404 : decode cX12_init 404 = .ok (.bipush 16, 2) := by decide +kernel
theorem dX12_init_406 : decode cX12_init 406 = .ok (.newarray .int, 2) := by decide +kernel
theorem dX12_init_408 : decode cX12_init 408 = .ok (.putfield 158, 3) := by decide +kernel
theorem dX12_init_411 : decode cX12_init 411 = .ok (.aload_n 0, 1) := by decide +kernel
theorem dX12_init_412 : decode cX12_init 412 = .ok (.sipush 256, 3) := by decide +kernel
theorem dX12_init_415 : decode cX12_init 415 = .ok (.newarray .int, 2) := by decide +kernel
theorem dX12_init_417 : decode cX12_init 417 = .ok (.putfield 161, 3) := by decide +kernel
theorem dX12_init_420 : decode cX12_init 420 = .ok (.aload_n 0, 1) := by decide +kernel
theorem dX12_init_421 : decode cX12_init 421 = .ok (.iconst 1, 1) := by decide +kernel
theorem dX12_init_422 : decode cX12_init 422 = .ok (.putfield 164, 3) := by decide +kernel
theorem dX12_init_425 : decode cX12_init 425 = .ok (.iconst 0, 1) := by decide +kernel
theorem dX12_init_426 : decode cX12_init 426 = .ok (.istore_n 1, 1) := by decide +kernel
theorem dX12_init_427 : decode cX12_init 427 = .ok (.iload_n 1, 1) := by decide +kernel
theorem dX12_init_428 : decode cX12_init 428 = .ok (.bipush 16, 2) := by decide +kernel
theorem dX12_init_430 : decode cX12_init 430 = .ok (.if_icmp .ge 16, 3) := by decide +kernel
theorem dX12_init_433 : decode cX12_init 433 = .ok (.aload_n 0, 1) := by decide +kernel
theorem dX12_init_434 : decode cX12_init 434 = .ok (.getfield 19, 3) := by decide +kernel
theorem dX12_init_437 : decode cX12_init 437 = .ok (.iload_n 1, 1) := by decide +kernel
theorem dX12_init_438 : decode cX12_init 438 = .ok (.iconst (-1), 1) := by decide +kernel
theorem dX12_init_439 : decode cX12_init 439 = .ok (.iastore, 1) := by decide +kernel
theorem dX12_init_440 : decode cX12_init 440 = .ok (.iinc 1 1, 3) := by decide +kernel
theorem dX12_init_443 : decode cX12_init 443 = .ok (.goto (-16), 3) := by decide +kernel
theorem dX12_init_446 : decode cX12_init 446 = .ok (.return_, 1) := by decide +kernel
theorem dX12_in_0 : decode cX12_in 0 = .ok (.iload_n 0, 1) := by decide +kernel
theorem dX12_in_1 : decode cX12_in 1 = .ok (.iload_n 1, 1) := by decide +kernel
theorem dX12_in_2 : decode cX12_in 2 = .ok (.if_icmp .lt 12, 3) := by decide +kernel
theorem dX12_in_5 : decode cX12_in 5 = .ok (.iload_n 0, 1) := by decide +kernel
theorem dX12_in_6 : decode cX12_in 6 = .ok (.iload_n 2, 1) := by decide +kernel
theorem dX12_in_7 : decode cX12_in 7 = .ok (.if_icmp .gt 7, 3) := by decide +kernel
theorem dX12_in_10 : decode cX12_in 10 = .ok (.iconst 1, 1) := by decide +kernel
theorem dX12_in_11 : decode cX12_in 11 = .ok (.goto 4, 3) := by decide +kernel
theorem dX12_in_14 : decode cX12_in 14 = .ok (.iconst 0, 1) := by decide +kernel
theorem dX12_in_15 : decode cX12_in 15 = .ok (.ireturn, 1) := by decide +kernel
theorem dX12_size_0 : decode cX12_size 0 = .ok (.iload_n 0, 1) := by decide +kernel
theorem dX12_size_1 : decode cX12_size 1 = .ok (.ifCond .ge 8, 3) := by decide +kernel
theorem dX12_size_4 : decode cX12_size 4 = .ok (.iload_n 0, 1) := by decide +kernel
theorem dX12_size_5 : decode cX12_size 5 = .ok (.ineg, 1) := by decide +kernel
theorem dX12_size_6 : decode cX12_size 6 = .ok (.goto 4, 3) := by decide +kernel
theorem dX12_size_9 : decode cX12_size 9 = .ok (.iload_n 0, 1) := by decide +kernel
theorem dX12_size_10 : decode cX12_size 10 = .ok (.ireturn, 1) := by decide +kernel
theorem dX12_isSeat_0 : decode cX12_isSeat 0 = .ok (.iload_n 0, 1) := by decide +kernel
theorem dX12_isSeat_1 : decode cX12_isSeat 1 = .ok (.ifCond .lt 13, 3) := by decide +kernel
theorem dX12_isSeat_4 : decode cX12_isSeat 4 = .ok (.iload_n 0, 1) := by decide +kernel
theorem dX12_isSeat_5 : decode cX12_isSeat 5 = .ok (.bipush 40, 2) := by decide +kernel
theorem dX12_isSeat_7 : decode cX12_isSeat 7 = .ok (.if_icmp .ge 7, 3) := by decide +kernel
theorem dX12_isSeat_10 : decode cX12_isSeat 10 = .ok (.iconst 1, 1) := by decide +kernel
theorem dX12_isSeat_11 : decode cX12_isSeat 11 = .ok (.goto 4, 3) := by decide +kernel
theorem dX12_isSeat_14 : decode cX12_isSeat 14 = .ok (.iconst 0, 1) := by decide +kernel
theorem dX12_isSeat_15 : decode cX12_isSeat 15 = .ok (.ireturn, 1) := by decide +kernel
theorem dX12_isGuest_0 : decode cX12_isGuest 0 = .ok (.iload_n 1, 1) := by decide +kernel
theorem dX12_isGuest_1 : decode cX12_isGuest 1 = .ok (.ifCond .lt 15, 3) := by decide +kernel
theorem dX12_isGuest_4 : decode cX12_isGuest 4 = .ok (.iload_n 1, 1) := by decide +kernel
theorem dX12_isGuest_5 : decode cX12_isGuest 5 = .ok (.aload_n 0, 1) := by decide +kernel
theorem dX12_isGuest_6 : decode cX12_isGuest 6 = .ok (.getfield 168, 3) := by decide +kernel
theorem dX12_isGuest_9 : decode cX12_isGuest 9 = .ok (.if_icmp .ge 7, 3) := by decide +kernel
theorem dX12_isGuest_12 : decode cX12_isGuest 12 = .ok (.iconst 1, 1) := by decide +kernel
theorem dX12_isGuest_13 : decode cX12_isGuest 13 = .ok (.goto 4, 3) := by decide +kernel
theorem dX12_isGuest_16 : decode cX12_isGuest 16 = .ok (.iconst 0, 1) := by decide +kernel
theorem dX12_isGuest_17 : decode cX12_isGuest 17 = .ok (.ireturn, 1) := by decide +kernel
theorem dX12_sits_0 : decode cX12_sits 0 = .ok (.aload_n 0, 1) := by decide +kernel
theorem dX12_sits_1 : decode cX12_sits 1 = .ok (.getfield 13, 3) := by decide +kernel
theorem dX12_sits_4 : decode cX12_sits 4 = .ok (.iload_n 1, 1) := by decide +kernel
theorem dX12_sits_5 : decode cX12_sits 5 = .ok (.iaload, 1) := by decide +kernel
theorem dX12_sits_6 : decode cX12_sits 6 = .ok (.ifCond .lt 7, 3) := by decide +kernel
theorem dX12_sits_9 : decode cX12_sits 9 = .ok (.iconst 1, 1) := by decide +kernel
theorem dX12_sits_10 : decode cX12_sits 10 = .ok (.goto 4, 3) := by decide +kernel
theorem dX12_sits_13 : decode cX12_sits 13 = .ok (.iconst 0, 1) := by decide +kernel
theorem dX12_sits_14 : decode cX12_sits 14 = .ok (.ireturn, 1) := by decide +kernel
theorem dX12_guestAt_0 : decode cX12_guestAt 0 = .ok (.iconst 0, 1) := by decide +kernel
theorem dX12_guestAt_1 : decode cX12_guestAt 1 = .ok (.istore_n 2, 1) := by decide +kernel
theorem dX12_guestAt_2 : decode cX12_guestAt 2 = .ok (.iload_n 2, 1) := by decide +kernel
theorem dX12_guestAt_3 : decode cX12_guestAt 3 = .ok (.aload_n 0, 1) := by decide +kernel
theorem dX12_guestAt_4 : decode cX12_guestAt 4 = .ok (.getfield 168, 3) := by decide +kernel
theorem dX12_guestAt_7 : decode cX12_guestAt 7 = .ok (.if_icmp .ge 21, 3) := by decide +kernel
theorem dX12_guestAt_10 : decode cX12_guestAt 10 = .ok (.aload_n 0, 1) := by decide +kernel
theorem dX12_guestAt_11 : decode cX12_guestAt 11 = .ok (.getfield 13, 3) := by decide +kernel
theorem dX12_guestAt_14 : decode cX12_guestAt 14 = .ok (.iload_n 2, 1) := by decide +kernel
theorem dX12_guestAt_15 : decode cX12_guestAt 15 = .ok (.iaload, 1) := by decide +kernel
theorem dX12_guestAt_16 : decode cX12_guestAt 16 = .ok (.iload_n 1, 1) := by decide +kernel
theorem dX12_guestAt_17 : decode cX12_guestAt 17 = .ok (.if_icmp .ne 5, 3) := by decide +kernel
theorem dX12_guestAt_20 : decode cX12_guestAt 20 = .ok (.iload_n 2, 1) := by decide +kernel
theorem dX12_guestAt_21 : decode cX12_guestAt 21 = .ok (.ireturn, 1) := by decide +kernel
theorem dX12_guestAt_22 : decode cX12_guestAt 22 = .ok (.iinc 2 1, 3) := by decide +kernel
theorem dX12_guestAt_25 : decode cX12_guestAt 25 = .ok (.goto (-23), 3) := by decide +kernel
theorem dX12_guestAt_28 : decode cX12_guestAt 28 = .ok (.iconst (-1), 1) := by decide +kernel
theorem dX12_guestAt_29 : decode cX12_guestAt 29 = .ok (.ireturn, 1) := by decide +kernel
theorem dX12_guest_0 : decode cX12_guest 0 = .ok (.iload_n 1, 1) := by decide +kernel
theorem dX12_guest_1 : decode cX12_guest 1 = .ok (.iconst 0, 1) := by decide +kernel
theorem dX12_guest_2 : decode cX12_guest 2 = .ok (.iconst 1, 1) := by decide +kernel
theorem dX12_guest_3 : decode cX12_guest 3 = .ok (.invokestatic 171, 3) := by decide +kernel
theorem dX12_guest_6 : decode cX12_guest 6 = .ok (.ifCond .eq 24, 3) := by decide +kernel
theorem dX12_guest_9 : decode cX12_guest 9 = .ok (.iload_n 2, 1) := by decide +kernel
theorem dX12_guest_10 : decode cX12_guest 10 = .ok (.iconst (-1), 1) := by decide +kernel
theorem dX12_guest_11 : decode cX12_guest 11 = .ok (.if_icmp .eq 10, 3) := by decide +kernel
theorem dX12_guest_14 : decode cX12_guest 14 = .ok (.iload_n 2, 1) := by decide +kernel
theorem dX12_guest_15 : decode cX12_guest 15 = .ok (.invokestatic 175, 3) := by decide +kernel
theorem dX12_guest_18 : decode cX12_guest 18 = .ok (.ifCond .eq 12, 3) := by decide +kernel
theorem dX12_guest_21 : decode cX12_guest 21 = .ok (.aload_n 0, 1) := by decide +kernel
theorem dX12_guest_22 : decode cX12_guest 22 = .ok (.getfield 168, 3) := by decide +kernel
theorem dX12_guest_25 : decode cX12_guest 25 = .ok (.bipush 16, 2) := by decide +kernel
theorem dX12_guest_27 : decode cX12_guest 27 = .ok (.if_icmp .ne 5, 3) := by decide +kernel
theorem dX12_guest_30 : decode cX12_guest 30 = .ok (.iconst (-1), 1) := by decide +kernel
theorem dX12_guest_31 : decode cX12_guest 31 = .ok (.ireturn, 1) := by decide +kernel
theorem dX12_guest_32 : decode cX12_guest 32 = .ok (.iload_n 2, 1) := by decide +kernel
theorem dX12_guest_33 : decode cX12_guest 33 = .ok (.iconst (-1), 1) := by decide +kernel
theorem dX12_guest_34 : decode cX12_guest 34 = .ok (.if_icmp .eq 15, 3) := by decide +kernel
theorem dX12_guest_37 : decode cX12_guest 37 = .ok (.aload_n 0, 1) := by decide +kernel
theorem dX12_guest_38 : decode cX12_guest 38 = .ok (.iload_n 2, 1) := by decide +kernel
theorem dX12_guest_39 : decode cX12_guest 39 = .ok (.invokevirtual 179, 3) := by decide +kernel
theorem dX12_guest_42 : decode cX12_guest 42 = .ok (.iconst (-1), 1) := by decide +kernel
theorem dX12_guest_43 : decode cX12_guest 43 = .ok (.if_icmp .eq 6, 3) := by decide +kernel
theorem dX12_guest_46 : decode cX12_guest 46 = .ok (.bipush (-2), 2) := by decide +kernel
theorem dX12_guest_48 : decode cX12_guest 48 = .ok (.ireturn, 1) := by decide +kernel
theorem dX12_guest_49 : decode cX12_guest 49 = .ok (.aload_n 0, 1) := by decide +kernel
theorem dX12_guest_50 : decode cX12_guest 50 = .ok (.getfield 7, 3) := by decide +kernel
theorem dX12_guest_53 : decode cX12_guest 53 = .ok (.aload_n 0, 1) := by decide +kernel
theorem dX12_guest_54 : decode cX12_guest 54 = .ok (.getfield 168, 3) := by decide +kernel
theorem dX12_guest_57 : decode cX12_guest 57 = .ok (.iload_n 1, 1) := by decide +kernel
theorem dX12_guest_58 : decode cX12_guest 58 = .ok (.iastore, 1) := by decide +kernel
theorem dX12_guest_59 : decode cX12_guest 59 = .ok (.aload_n 0, 1) := by decide +kernel
theorem dX12_guest_60 : decode cX12_guest 60 = .ok (.getfield 13, 3) := by decide +kernel
theorem dX12_guest_63 : decode cX12_guest 63 = .ok (.aload_n 0, 1) := by decide +kernel
theorem dX12_guest_64 : decode cX12_guest 64 = .ok (.getfield 168, 3) := by decide +kernel
theorem dX12_guest_67 : decode cX12_guest 67 = .ok (.iload_n 2, 1) := by decide +kernel
theorem dX12_guest_68 : decode cX12_guest 68 = .ok (.iastore, 1) := by decide +kernel
theorem dX12_guest_69 : decode cX12_guest 69 = .ok (.aload_n 0, 1) := by decide +kernel
theorem dX12_guest_70 : decode cX12_guest 70 = .ok (.aload_n 0, 1) := by decide +kernel
theorem dX12_guest_71 : decode cX12_guest 71 = .ok (.getfield 168, 3) := by decide +kernel
theorem dX12_guest_74 : decode cX12_guest 74 = .ok (.iconst 1, 1) := by decide +kernel
theorem dX12_guest_75 : decode cX12_guest 75 = .ok (.iadd, 1) := by decide +kernel
theorem dX12_guest_76 : decode cX12_guest 76 = .ok (.putfield 168, 3) := by decide +kernel
theorem dX12_guest_79 : decode cX12_guest 79 = .ok (.aload_n 0, 1) := by decide +kernel
theorem dX12_guest_80 : decode cX12_guest 80 = .ok (.getfield 168, 3) := by decide +kernel
theorem dX12_guest_83 : decode cX12_guest 83 = .ok (.iconst 1, 1) := by decide +kernel
theorem dX12_guest_84 : decode cX12_guest 84 = .ok (.isub, 1) := by decide +kernel
theorem dX12_guest_85 : decode cX12_guest 85 = .ok (.ireturn, 1) := by decide +kernel
theorem dX12_liking_0 : decode cX12_liking 0 = .ok (.aload_n 0, 1) := by decide +kernel
theorem dX12_liking_1 : decode cX12_liking 1 = .ok (.iload_n 1, 1) := by decide +kernel
theorem dX12_liking_2 : decode cX12_liking 2 = .ok (.invokevirtual 183, 3) := by decide +kernel
theorem dX12_liking_5 : decode cX12_liking 5 = .ok (.ifCond .eq 27, 3) := by decide +kernel
theorem dX12_liking_8 : decode cX12_liking 8 = .ok (.aload_n 0, 1) := by decide +kernel
theorem dX12_liking_9 : decode cX12_liking 9 = .ok (.iload_n 2, 1) := by decide +kernel
theorem dX12_liking_10 : decode cX12_liking 10 = .ok (.invokevirtual 183, 3) := by decide +kernel
theorem dX12_liking_13 : decode cX12_liking 13 = .ok (.ifCond .eq 19, 3) := by decide +kernel
theorem dX12_liking_16 : decode cX12_liking 16 = .ok (.iload_n 1, 1) := by decide +kernel
theorem dX12_liking_17 : decode cX12_liking 17 = .ok (.iload_n 2, 1) := by decide +kernel
theorem dX12_liking_18 : decode cX12_liking 18 = .ok (.if_icmp .eq 14, 3) := by decide +kernel
theorem dX12_liking_21 : decode cX12_liking 21 = .ok (.iload_n 3, 1) := by decide +kernel
theorem dX12_liking_22 : decode cX12_liking 22 = .ok (.bipush (-9), 2) := by decide +kernel
theorem dX12_liking_24 : decode cX12_liking 24 = .ok (.bipush 9, 2) := by decide +kernel
theorem dX12_liking_26 : decode cX12_liking 26 = .ok (.invokestatic 171, 3) := by decide +kernel
theorem dX12_liking_29 : decode cX12_liking 29 = .ok (.ifCond .ne 5, 3) := by decide +kernel
theorem dX12_liking_32 : decode cX12_liking 32 = .ok (.iconst 0, 1) := by decide +kernel
theorem dX12_liking_33 : decode cX12_liking 33 = .ok (.ireturn, 1) := by decide +kernel
theorem dX12_liking_34 : decode cX12_liking 34 = .ok (.aload_n 0, 1) := by decide +kernel
theorem dX12_liking_35 : decode cX12_liking 35 = .ok (.getfield 16, 3) := by decide +kernel
theorem dX12_liking_38 : decode cX12_liking 38 = .ok (.bipush 16, 2) := by decide +kernel
theorem dX12_liking_40 : decode cX12_liking 40 = .ok (.iload_n 1, 1) := by decide +kernel
theorem dX12_liking_41 : decode cX12_liking 41 = .ok (.imul, 1) := by decide +kernel
theorem dX12_liking_42 : decode cX12_liking 42 = .ok (.iload_n 2, 1) := by decide +kernel
theorem dX12_liking_43 : decode cX12_liking 43 = .ok (.iadd, 1) := by decide +kernel
theorem dX12_liking_44 : decode cX12_liking 44 = .ok (.iload_n 3, 1) := by decide +kernel
theorem dX12_liking_45 : decode cX12_liking 45 = .ok (.iastore, 1) := by decide +kernel
theorem dX12_liking_46 : decode cX12_liking 46 = .ok (.iconst 1, 1) := by decide +kernel
theorem dX12_liking_47 : decode cX12_liking 47 = .ok (.ireturn, 1) := by decide +kernel
theorem dX12_sit_0 : decode cX12_sit 0 = .ok (.aload_n 0, 1) := by decide +kernel
theorem dX12_sit_1 : decode cX12_sit 1 = .ok (.iload_n 1, 1) := by decide +kernel
theorem dX12_sit_2 : decode cX12_sit 2 = .ok (.invokevirtual 183, 3) := by decide +kernel
theorem dX12_sit_5 : decode cX12_sit 5 = .ok (.ifCond .eq 35, 3) := by decide +kernel
theorem dX12_sit_8 : decode cX12_sit 8 = .ok (.aload_n 0, 1) := by decide +kernel
theorem dX12_sit_9 : decode cX12_sit 9 = .ok (.getfield 13, 3) := by decide +kernel
theorem dX12_sit_12 : decode cX12_sit 12 = .ok (.iload_n 1, 1) := by decide +kernel
theorem dX12_sit_13 : decode cX12_sit 13 = .ok (.iaload, 1) := by decide +kernel
theorem dX12_sit_14 : decode cX12_sit 14 = .ok (.bipush (-2), 2) := by decide +kernel
theorem dX12_sit_16 : decode cX12_sit 16 = .ok (.if_icmp .eq 24, 3) := by decide +kernel
theorem dX12_sit_19 : decode cX12_sit 19 = .ok (.iload_n 2, 1) := by decide +kernel
theorem dX12_sit_20 : decode cX12_sit 20 = .ok (.iconst (-1), 1) := by decide +kernel
theorem dX12_sit_21 : decode cX12_sit 21 = .ok (.if_icmp .eq 21, 3) := by decide +kernel
theorem dX12_sit_24 : decode cX12_sit 24 = .ok (.iload_n 2, 1) := by decide +kernel
theorem dX12_sit_25 : decode cX12_sit 25 = .ok (.invokestatic 175, 3) := by decide +kernel
theorem dX12_sit_28 : decode cX12_sit 28 = .ok (.ifCond .eq 12, 3) := by decide +kernel
theorem dX12_sit_31 : decode cX12_sit 31 = .ok (.aload_n 0, 1) := by decide +kernel
theorem dX12_sit_32 : decode cX12_sit 32 = .ok (.iload_n 2, 1) := by decide +kernel
theorem dX12_sit_33 : decode cX12_sit 33 = .ok (.invokevirtual 179, 3) := by decide +kernel
theorem dX12_sit_36 : decode cX12_sit 36 = .ok (.iconst (-1), 1) := by decide +kernel
theorem dX12_sit_37 : decode cX12_sit 37 = .ok (.if_icmp .eq 5, 3) := by decide +kernel
theorem dX12_sit_40 : decode cX12_sit 40 = .ok (.iconst 0, 1) := by decide +kernel
theorem dX12_sit_41 : decode cX12_sit 41 = .ok (.ireturn, 1) := by decide +kernel
theorem dX12_sit_42 : decode cX12_sit 42 = .ok (.aload_n 0, 1) := by decide +kernel
theorem dX12_sit_43 : decode cX12_sit 43 = .ok (.getfield 13, 3) := by decide +kernel
theorem dX12_sit_46 : decode cX12_sit 46 = .ok (.iload_n 1, 1) := by decide +kernel
theorem dX12_sit_47 : decode cX12_sit 47 = .ok (.iload_n 2, 1) := by decide +kernel
theorem dX12_sit_48 : decode cX12_sit 48 = .ok (.iastore, 1) := by decide +kernel
theorem dX12_sit_49 : decode cX12_sit 49 = .ok (.iconst 1, 1) := by decide +kernel
theorem dX12_sit_50 : decode cX12_sit 50 = .ok (.ireturn, 1) := by decide +kernel
theorem dX12_types_0 : decode cX12_types 0 = .ok (.iconst 3, 1) := by decide +kernel
theorem dX12_types_1 : decode cX12_types 1 = .ok (.istore_n 2, 1) := by decide +kernel
theorem dX12_types_2 : decode cX12_types 2 = .ok (.iload_n 2, 1) := by decide +kernel
theorem dX12_types_3 : decode cX12_types 3 = .ok (.ifCond .lt 35, 3) := by decide +kernel
theorem dX12_types_6 : decode cX12_types 6 = .ok (.aload_n 0, 1) := by decide +kernel
theorem dX12_types_7 : decode cX12_types 7 = .ok (.getfield 22, 3) := by decide +kernel
theorem dX12_types_10 : decode cX12_types 10 = .ok (.aload_n 0, 1) := by decide +kernel
theorem dX12_types_11 : decode cX12_types 11 = .ok (.getfield 186, 3) := by decide +kernel
theorem dX12_types_14 : decode cX12_types 14 = .ok (.iload_n 1, 1) := by decide +kernel
theorem dX12_types_15 : decode cX12_types 15 = .ok (.bipush 8, 2) := by decide +kernel
theorem dX12_types_17 : decode cX12_types 17 = .ok (.iload_n 2, 1) := by decide +kernel
theorem dX12_types_18 : decode cX12_types 18 = .ok (.imul, 1) := by decide +kernel
theorem dX12_types_19 : decode cX12_types 19 = .ok (.ishr, 1) := by decide +kernel
theorem dX12_types_20 : decode cX12_types 20 = .ok (.i2b, 1) := by decide +kernel
theorem dX12_types_21 : decode cX12_types 21 = .ok (.bastore, 1) := by decide +kernel
theorem dX12_types_22 : decode cX12_types 22 = .ok (.aload_n 0, 1) := by decide +kernel
theorem dX12_types_23 : decode cX12_types 23 = .ok (.aload_n 0, 1) := by decide +kernel
theorem dX12_types_24 : decode cX12_types 24 = .ok (.getfield 186, 3) := by decide +kernel
theorem dX12_types_27 : decode cX12_types 27 = .ok (.iconst 1, 1) := by decide +kernel
theorem dX12_types_28 : decode cX12_types 28 = .ok (.iadd, 1) := by decide +kernel
theorem dX12_types_29 : decode cX12_types 29 = .ok (.putfield 186, 3) := by decide +kernel
theorem dX12_types_32 : decode cX12_types 32 = .ok (.iinc 2 (-1), 3) := by decide +kernel
theorem dX12_types_35 : decode cX12_types 35 = .ok (.goto (-33), 3) := by decide +kernel
theorem dX12_types_38 : decode cX12_types 38 = .ok (.return_, 1) := by decide +kernel
theorem dX12_feed_0 : decode cX12_feed 0 = .ok (.aload_n 0, 1) := by decide +kernel
theorem dX12_feed_1 : decode cX12_feed 1 = .ok (.getfield 186, 3) := by decide +kernel
theorem dX12_feed_4 : decode cX12_feed 4 = .ok (.bipush 20, 2) := by decide +kernel
theorem dX12_feed_6 : decode cX12_feed 6 = .ok (.iadd, 1) := by decide +kernel
theorem dX12_feed_7 : decode cX12_feed 7 = .ok (.sipush 220, 3) := by decide +kernel
theorem dX12_feed_10 : decode cX12_feed 10 = .ok (.if_icmp .le 5, 3) := by decide +kernel
theorem dX12_feed_13 : decode cX12_feed 13 = .ok (.iconst (-1), 1) := by decide +kernel
theorem dX12_feed_14 : decode cX12_feed 14 = .ok (.ireturn, 1) := by decide +kernel
theorem dX12_feed_15 : decode cX12_feed 15 = .ok (.aload_n 0, 1) := by decide +kernel
theorem dX12_feed_16 : decode cX12_feed 16 = .ok (.iload_n 1, 1) := by decide +kernel
theorem dX12_feed_17 : decode cX12_feed 17 = .ok (.invokevirtual 189, 3) := by decide +kernel
theorem dX12_feed_20 : decode cX12_feed 20 = .ok (.aload_n 0, 1) := by decide +kernel
theorem dX12_feed_21 : decode cX12_feed 21 = .ok (.iload_n 2, 1) := by decide +kernel
theorem dX12_feed_22 : decode cX12_feed 22 = .ok (.invokevirtual 189, 3) := by decide +kernel
theorem dX12_feed_25 : decode cX12_feed 25 = .ok (.aload_n 0, 1) := by decide +kernel
theorem dX12_feed_26 : decode cX12_feed 26 = .ok (.iload_n 3, 1) := by decide +kernel
theorem dX12_feed_27 : decode cX12_feed 27 = .ok (.invokevirtual 189, 3) := by decide +kernel
theorem dX12_feed_30 : decode cX12_feed 30 = .ok (.aload_n 0, 1) := by decide +kernel
theorem dX12_feed_31 : decode cX12_feed 31 = .ok (.iload 4, 2) := by decide +kernel
theorem dX12_feed_33 : decode cX12_feed 33 = .ok (.invokevirtual 189, 3) := by decide +kernel
theorem dX12_feed_36 : decode cX12_feed 36 = .ok (.aload_n 0, 1) := by decide +kernel
theorem dX12_feed_37 : decode cX12_feed 37 = .ok (.iload 5, 2) := by decide +kernel
theorem dX12_feed_39 : decode cX12_feed 39 = .ok (.invokevirtual 189, 3) := by decide +kernel
theorem dX12_feed_42 : decode cX12_feed 42 = .ok (.aload_n 0, 1) := by decide +kernel
theorem dX12_feed_43 : decode cX12_feed 43 = .ok (.getfield 186, 3) := by decide +kernel
theorem dX12_feed_46 : decode cX12_feed 46 = .ok (.ireturn, 1) := by decide +kernel
theorem dX12_here_0 : decode cX12_here 0 = .ok (.aload_n 0, 1) := by decide +kernel
theorem dX12_here_1 : decode cX12_here 1 = .ok (.getfield 193, 3) := by decide +kernel
theorem dX12_here_4 : decode cX12_here 4 = .ok (.aload_n 0, 1) := by decide +kernel
theorem dX12_here_5 : decode cX12_here 5 = .ok (.getfield 196, 3) := by decide +kernel
theorem dX12_here_8 : decode cX12_here 8 = .ok (.if_icmp .ge 19, 3) := by decide +kernel
theorem dX12_here_11 : decode cX12_here 11 = .ok (.aload_n 0, 1) := by decide +kernel
theorem dX12_here_12 : decode cX12_here 12 = .ok (.getfield 22, 3) := by decide +kernel
theorem dX12_here_15 : decode cX12_here 15 = .ok (.aload_n 0, 1) := by decide +kernel
theorem dX12_here_16 : decode cX12_here 16 = .ok (.getfield 193, 3) := by decide +kernel
theorem dX12_here_19 : decode cX12_here 19 = .ok (.baload, 1) := by decide +kernel
theorem dX12_here_20 : decode cX12_here 20 = .ok (.sipush 255, 3) := by decide +kernel
theorem dX12_here_23 : decode cX12_here 23 = .ok (.iand, 1) := by decide +kernel
theorem dX12_here_24 : decode cX12_here 24 = .ok (.goto 4, 3) := by decide +kernel
theorem dX12_here_27 : decode cX12_here 27 = .ok (.iconst (-1), 1) := by decide +kernel
theorem dX12_here_28 : decode cX12_here 28 = .ok (.ireturn, 1) := by decide +kernel
theorem dX12_isDigit_0 : decode cX12_isDigit 0 = .ok (.aload_n 0, 1) := by decide +kernel
theorem dX12_isDigit_1 : decode cX12_isDigit 1 = .ok (.invokevirtual 199, 3) := by decide +kernel
theorem dX12_isDigit_4 : decode cX12_isDigit 4 = .ok (.bipush 48, 2) := by decide +kernel
theorem dX12_isDigit_6 : decode cX12_isDigit 6 = .ok (.if_icmp .lt 16, 3) := by decide +kernel
theorem dX12_isDigit_9 : decode cX12_isDigit 9 = .ok (.aload_n 0, 1) := by decide +kernel
theorem dX12_isDigit_10 : decode cX12_isDigit 10 = .ok (.invokevirtual 199, 3) := by decide +kernel
theorem dX12_isDigit_13 : decode cX12_isDigit 13 = .ok (.bipush 57, 2) := by decide +kernel
theorem dX12_isDigit_15 : decode cX12_isDigit 15 = .ok (.if_icmp .gt 7, 3) := by decide +kernel
theorem dX12_isDigit_18 : decode cX12_isDigit 18 = .ok (.iconst 1, 1) := by decide +kernel
theorem dX12_isDigit_19 : decode cX12_isDigit 19 = .ok (.goto 4, 3) := by decide +kernel
theorem dX12_isDigit_22 : decode cX12_isDigit 22 = .ok (.iconst 0, 1) := by decide +kernel
theorem dX12_isDigit_23 : decode cX12_isDigit 23 = .ok (.ireturn, 1) := by decide +kernel
theorem dX12_wrongAt_0 : decode cX12_wrongAt 0 = .ok (.aload_n 0, 1) := by decide +kernel
theorem dX12_wrongAt_1 : decode cX12_wrongAt 1 = .ok (.sipush (-1000), 3) := by decide +kernel
theorem dX12_wrongAt_4 : decode cX12_wrongAt 4 = .ok (.iload_n 1, 1) := by decide +kernel
theorem dX12_wrongAt_5 : decode cX12_wrongAt 5 = .ok (.imul, 1) := by decide +kernel
theorem dX12_wrongAt_6 : decode cX12_wrongAt 6 = .ok (.iload_n 2, 1) := by decide +kernel
theorem dX12_wrongAt_7 : decode cX12_wrongAt 7 = .ok (.isub, 1) := by decide +kernel
theorem dX12_wrongAt_8 : decode cX12_wrongAt 8 = .ok (.putfield 203, 3) := by decide +kernel
theorem dX12_wrongAt_11 : decode cX12_wrongAt 11 = .ok (.iconst 0, 1) := by decide +kernel
theorem dX12_wrongAt_12 : decode cX12_wrongAt 12 = .ok (.ireturn, 1) := by decide +kernel
theorem dX12_takes_0 : decode cX12_takes 0 = .ok (.aload_n 0, 1) := by decide +kernel
theorem dX12_takes_1 : decode cX12_takes 1 = .ok (.invokevirtual 199, 3) := by decide +kernel
theorem dX12_takes_4 : decode cX12_takes 4 = .ok (.iload_n 1, 1) := by decide +kernel
theorem dX12_takes_5 : decode cX12_takes 5 = .ok (.if_icmp .eq 13, 3) := by decide +kernel
theorem dX12_takes_8 : decode cX12_takes 8 = .ok (.aload_n 0, 1) := by decide +kernel
theorem dX12_takes_9 : decode cX12_takes 9 = .ok (.iconst 1, 1) := by decide +kernel
theorem dX12_takes_10 : decode cX12_takes 10 = .ok (.aload_n 0, 1) := by decide +kernel
theorem dX12_takes_11 : decode cX12_takes 11 = .ok (.getfield 193, 3) := by decide +kernel
theorem dX12_takes_14 : decode cX12_takes 14 = .ok (.invokevirtual 206, 3) := by decide +kernel
theorem dX12_takes_17 : decode cX12_takes 17 = .ok (.ireturn, 1) := by decide +kernel
theorem dX12_takes_18 : decode cX12_takes 18 = .ok (.aload_n 0, 1) := by decide +kernel
theorem dX12_takes_19 : decode cX12_takes 19 = .ok (.aload_n 0, 1) := by decide +kernel
theorem dX12_takes_20 : decode cX12_takes 20 = .ok (.getfield 193, 3) := by decide +kernel
theorem dX12_takes_23 : decode cX12_takes 23 = .ok (.iconst 1, 1) := by decide +kernel
theorem dX12_takes_24 : decode cX12_takes 24 = .ok (.iadd, 1) := by decide +kernel
theorem dX12_takes_25 : decode cX12_takes 25 = .ok (.putfield 193, 3) := by decide +kernel
theorem dX12_takes_28 : decode cX12_takes 28 = .ok (.iconst 1, 1) := by decide +kernel
theorem dX12_takes_29 : decode cX12_takes 29 = .ok (.ireturn, 1) := by decide +kernel
theorem dX12_readsNumber_0 : decode cX12_readsNumber 0 = .ok (.aload_n 0, 1) := by decide +kernel
theorem dX12_readsNumber_1 : decode cX12_readsNumber 1 = .ok (.getfield 193, 3) := by decide +kernel
theorem dX12_readsNumber_4 : decode cX12_readsNumber 4 = .ok (.istore_n 1, 1) := by decide +kernel
theorem dX12_readsNumber_5 : decode cX12_readsNumber 5 = .ok (.aload_n 0, 1) := by decide +kernel
theorem dX12_readsNumber_6 : decode cX12_readsNumber 6 = .ok (.iconst 0, 1) := by decide +kernel
theorem dX12_readsNumber_7 : decode cX12_readsNumber 7 = .ok (.putfield 210, 3) := by decide +kernel
theorem dX12_readsNumber_10 : decode cX12_readsNumber 10 = .ok (.aload_n 0, 1) := by decide +kernel
theorem dX12_readsNumber_11 : decode cX12_readsNumber 11 = .ok (.invokevirtual 213, 3) := by decide +kernel
theorem dX12_readsNumber_14 : decode cX12_readsNumber 14 = .ok (.ifCond .eq 55, 3) := by decide +kernel
theorem dX12_readsNumber_17 : decode cX12_readsNumber 17 = .ok (.aload_n 0, 1) := by decide +kernel
theorem dX12_readsNumber_18 : decode cX12_readsNumber 18 = .ok (.getfield 193, 3) := by decide +kernel
theorem dX12_readsNumber_21 : decode cX12_readsNumber 21 = .ok (.iload_n 1, 1) := by decide +kernel
theorem dX12_readsNumber_22 : decode cX12_readsNumber 22 = .ok (.iconst 5, 1) := by decide +kernel
theorem dX12_readsNumber_23 : decode cX12_readsNumber 23 = .ok (.iadd, 1) := by decide +kernel
theorem dX12_readsNumber_24 : decode cX12_readsNumber 24 = .ok (.if_icmp .ne 13, 3) := by decide +kernel
theorem dX12_readsNumber_27 : decode cX12_readsNumber 27 = .ok (.aload_n 0, 1) := by decide +kernel
theorem dX12_readsNumber_28 : decode cX12_readsNumber 28 = .ok (.iconst 2, 1) := by decide +kernel
theorem dX12_readsNumber_29 : decode cX12_readsNumber 29 = .ok (.aload_n 0, 1) := by decide +kernel
theorem dX12_readsNumber_30 : decode cX12_readsNumber 30 = .ok (.getfield 193, 3) := by decide +kernel
theorem dX12_readsNumber_33 : decode cX12_readsNumber 33 = .ok (.invokevirtual 206, 3) := by decide +kernel
theorem dX12_readsNumber_36 : decode cX12_readsNumber 36 = .ok (.ireturn, 1) := by decide +kernel
theorem dX12_readsNumber_37 : decode cX12_readsNumber 37 = .ok (.aload_n 0, 1) := by decide +kernel
theorem dX12_readsNumber_38 : decode cX12_readsNumber 38 = .ok (.bipush 10, 2) := by decide +kernel
theorem dX12_readsNumber_40 : decode cX12_readsNumber 40 = .ok (.aload_n 0, 1) := by decide +kernel
theorem dX12_readsNumber_41 : decode cX12_readsNumber 41 = .ok (.getfield 210, 3) := by decide +kernel
theorem dX12_readsNumber_44 : decode cX12_readsNumber 44 = .ok (.imul, 1) := by decide +kernel
theorem dX12_readsNumber_45 : decode cX12_readsNumber 45 = .ok (.aload_n 0, 1) := by decide +kernel
theorem dX12_readsNumber_46 : decode cX12_readsNumber 46 = .ok (.invokevirtual 199, 3) := by decide +kernel
theorem dX12_readsNumber_49 : decode cX12_readsNumber 49 = .ok (.iadd, 1) := by decide +kernel
theorem dX12_readsNumber_50 : decode cX12_readsNumber 50 = .ok (.bipush 48, 2) := by decide +kernel
theorem dX12_readsNumber_52 : decode cX12_readsNumber 52 = .ok (.isub, 1) := by decide +kernel
theorem dX12_readsNumber_53 : decode cX12_readsNumber 53 = .ok (.putfield 210, 3) := by decide +kernel
theorem dX12_readsNumber_56 : decode cX12_readsNumber 56 = .ok (.aload_n 0, 1) := by decide +kernel
theorem dX12_readsNumber_57 : decode cX12_readsNumber 57 = .ok (.aload_n 0, 1) := by decide +kernel
theorem dX12_readsNumber_58 : decode cX12_readsNumber 58 = .ok (.getfield 193, 3) := by decide +kernel
theorem dX12_readsNumber_61 : decode cX12_readsNumber 61 = .ok (.iconst 1, 1) := by decide +kernel
theorem dX12_readsNumber_62 : decode cX12_readsNumber 62 = .ok (.iadd, 1) := by decide +kernel
theorem dX12_readsNumber_63 : decode cX12_readsNumber 63 = .ok (.putfield 193, 3) := by decide +kernel
theorem dX12_readsNumber_66 : decode cX12_readsNumber 66 = .ok (.goto (-56), 3) := by decide +kernel
theorem dX12_readsNumber_69 : decode cX12_readsNumber 69 = .ok (.iconst 1, 1) := by decide +kernel
theorem dX12_readsNumber_70 : decode cX12_readsNumber 70 = .ok (.ireturn, 1) := by decide +kernel
theorem dX12_notes_0 : decode cX12_notes 0 = .ok (.aload_n 0, 1) := by decide +kernel
theorem dX12_notes_1 : decode cX12_notes 1 = .ok (.getfield 26, 3) := by decide +kernel
theorem dX12_notes_4 : decode cX12_notes 4 = .ok (.aload_n 0, 1) := by decide +kernel
theorem dX12_notes_5 : decode cX12_notes 5 = .ok (.getfield 217, 3) := by decide +kernel
theorem dX12_notes_8 : decode cX12_notes 8 = .ok (.ldc 220, 2) := by decide +kernel
theorem dX12_notes_10 : decode cX12_notes 10 = .ok (.iload_n 1, 1) := by decide +kernel
theorem dX12_notes_11 : decode cX12_notes 11 = .ok (.imul, 1) := by decide +kernel
theorem dX12_notes_12 : decode cX12_notes 12 = .ok (.iload_n 2, 1) := by decide +kernel
theorem dX12_notes_13 : decode cX12_notes 13 = .ok (.iadd, 1) := by decide +kernel
theorem dX12_notes_14 : decode cX12_notes 14 = .ok (.iastore, 1) := by decide +kernel
theorem dX12_notes_15 : decode cX12_notes 15 = .ok (.aload_n 0, 1) := by decide +kernel
theorem dX12_notes_16 : decode cX12_notes 16 = .ok (.aload_n 0, 1) := by decide +kernel
theorem dX12_notes_17 : decode cX12_notes 17 = .ok (.getfield 217, 3) := by decide +kernel
theorem dX12_notes_20 : decode cX12_notes 20 = .ok (.iconst 1, 1) := by decide +kernel
theorem dX12_notes_21 : decode cX12_notes 21 = .ok (.iadd, 1) := by decide +kernel
theorem dX12_notes_22 : decode cX12_notes 22 = .ok (.putfield 217, 3) := by decide +kernel
theorem dX12_notes_25 : decode cX12_notes 25 = .ok (.return_, 1) := by decide +kernel
theorem dX12_opens_0 : decode cX12_opens 0 = .ok (.aload_n 0, 1) := by decide +kernel
theorem dX12_opens_1 : decode cX12_opens 1 = .ok (.getfield 221, 3) := by decide +kernel
theorem dX12_opens_4 : decode cX12_opens 4 = .ok (.bipush 6, 2) := by decide +kernel
theorem dX12_opens_6 : decode cX12_opens 6 = .ok (.if_icmp .ne 13, 3) := by decide +kernel
theorem dX12_opens_9 : decode cX12_opens 9 = .ok (.aload_n 0, 1) := by decide +kernel
theorem dX12_opens_10 : decode cX12_opens 10 = .ok (.iconst 5, 1) := by decide +kernel
theorem dX12_opens_11 : decode cX12_opens 11 = .ok (.aload_n 0, 1) := by decide +kernel
theorem dX12_opens_12 : decode cX12_opens 12 = .ok (.getfield 193, 3) := by decide +kernel
theorem dX12_opens_15 : decode cX12_opens 15 = .ok (.invokevirtual 206, 3) := by decide +kernel
theorem dX12_opens_18 : decode cX12_opens 18 = .ok (.ireturn, 1) := by decide +kernel
theorem dX12_opens_19 : decode cX12_opens 19 = .ok (.aload_n 0, 1) := by decide +kernel
theorem dX12_opens_20 : decode cX12_opens 20 = .ok (.aload_n 0, 1) := by decide +kernel
theorem dX12_opens_21 : decode cX12_opens 21 = .ok (.getfield 221, 3) := by decide +kernel
theorem dX12_opens_24 : decode cX12_opens 24 = .ok (.iconst 1, 1) := by decide +kernel
theorem dX12_opens_25 : decode cX12_opens 25 = .ok (.iadd, 1) := by decide +kernel
theorem dX12_opens_26 : decode cX12_opens 26 = .ok (.putfield 221, 3) := by decide +kernel
theorem dX12_opens_29 : decode cX12_opens 29 = .ok (.aload_n 0, 1) := by decide +kernel
theorem dX12_opens_30 : decode cX12_opens 30 = .ok (.getfield 29, 3) := by decide +kernel
theorem dX12_opens_33 : decode cX12_opens 33 = .ok (.aload_n 0, 1) := by decide +kernel
theorem dX12_opens_34 : decode cX12_opens 34 = .ok (.getfield 224, 3) := by decide +kernel
theorem dX12_opens_37 : decode cX12_opens 37 = .ok (.ldc 220, 2) := by decide +kernel
theorem dX12_opens_39 : decode cX12_opens 39 = .ok (.iload_n 1, 1) := by decide +kernel
theorem dX12_opens_40 : decode cX12_opens 40 = .ok (.imul, 1) := by decide +kernel
theorem dX12_opens_41 : decode cX12_opens 41 = .ok (.iastore, 1) := by decide +kernel
theorem dX12_opens_42 : decode cX12_opens 42 = .ok (.aload_n 0, 1) := by decide +kernel
theorem dX12_opens_43 : decode cX12_opens 43 = .ok (.aload_n 0, 1) := by decide +kernel
theorem dX12_opens_44 : decode cX12_opens 44 = .ok (.getfield 224, 3) := by decide +kernel
theorem dX12_opens_47 : decode cX12_opens 47 = .ok (.iconst 1, 1) := by decide +kernel
theorem dX12_opens_48 : decode cX12_opens 48 = .ok (.iadd, 1) := by decide +kernel
theorem dX12_opens_49 : decode cX12_opens 49 = .ok (.putfield 224, 3) := by decide +kernel
theorem dX12_opens_52 : decode cX12_opens 52 = .ok (.aload_n 0, 1) := by decide +kernel
theorem dX12_opens_53 : decode cX12_opens 53 = .ok (.aload_n 0, 1) := by decide +kernel
theorem dX12_opens_54 : decode cX12_opens 54 = .ok (.getfield 193, 3) := by decide +kernel
theorem dX12_opens_57 : decode cX12_opens 57 = .ok (.iconst 1, 1) := by decide +kernel
theorem dX12_opens_58 : decode cX12_opens 58 = .ok (.iadd, 1) := by decide +kernel
theorem dX12_opens_59 : decode cX12_opens 59 = .ok (.putfield 193, 3) := by decide +kernel
theorem dX12_opens_62 : decode cX12_opens 62 = .ok (.iconst 1, 1) := by decide +kernel
theorem dX12_opens_63 : decode cX12_opens 63 = .ok (.ireturn, 1) := by decide +kernel
theorem dX12_top_0 : decode cX12_top 0 = .ok (.aload_n 0, 1) := by decide +kernel
theorem dX12_top_1 : decode cX12_top 1 = .ok (.getfield 224, 3) := by decide +kernel
theorem dX12_top_4 : decode cX12_top 4 = .ok (.ifCond .ne 7, 3) := by decide +kernel
theorem dX12_top_7 : decode cX12_top 7 = .ok (.iconst (-1), 1) := by decide +kernel
theorem dX12_top_8 : decode cX12_top 8 = .ok (.goto 17, 3) := by decide +kernel
theorem dX12_top_11 : decode cX12_top 11 = .ok (.aload_n 0, 1) := by decide +kernel
theorem dX12_top_12 : decode cX12_top 12 = .ok (.getfield 29, 3) := by decide +kernel
theorem dX12_top_15 : decode cX12_top 15 = .ok (.aload_n 0, 1) := by decide +kernel
theorem dX12_top_16 : decode cX12_top 16 = .ok (.getfield 224, 3) := by decide +kernel
theorem dX12_top_19 : decode cX12_top 19 = .ok (.iconst 1, 1) := by decide +kernel
theorem dX12_top_20 : decode cX12_top 20 = .ok (.isub, 1) := by decide +kernel
theorem dX12_top_21 : decode cX12_top 21 = .ok (.iaload, 1) := by decide +kernel
theorem dX12_top_22 : decode cX12_top 22 = .ok (.ldc 220, 2) := by decide +kernel
theorem dX12_top_24 : decode cX12_top 24 = .ok (.idiv, 1) := by decide +kernel
theorem dX12_top_25 : decode cX12_top 25 = .ok (.ireturn, 1) := by decide +kernel
theorem dX12_factOf_0 : decode cX12_factOf 0 = .ok (.iload_n 0, 1) := by decide +kernel
theorem dX12_factOf_1 : decode cX12_factOf 1 = .ok (.tableswitch 119 97 116 #[99, 101, 119, 113, 119, 95, 97, 119, 119, 119, 119, 107, 110, 119, 116, 119, 119, 119, 103, 105], 95) := by decide +kernel
theorem dX12_factOf_96 : decode cX12_factOf 96 = .ok (.iconst 0, 1) := by decide +kernel
theorem dX12_factOf_97 : decode cX12_factOf 97 = .ok (.ireturn, 1) := by decide +kernel
theorem dX12_factOf_98 : decode cX12_factOf 98 = .ok (.iconst 1, 1) := by decide +kernel
theorem dX12_factOf_99 : decode cX12_factOf 99 = .ok (.ireturn, 1) := by decide +kernel
theorem dX12_factOf_100 : decode cX12_factOf 100 = .ok (.iconst 2, 1) := by decide +kernel
theorem dX12_factOf_101 : decode cX12_factOf 101 = .ok (.ireturn, 1) := by decide +kernel
theorem dX12_factOf_102 : decode cX12_factOf 102 = .ok (.iconst 3, 1) := by decide +kernel
theorem dX12_factOf_103 : decode cX12_factOf 103 = .ok (.ireturn, 1) := by decide +kernel
theorem dX12_factOf_104 : decode cX12_factOf 104 = .ok (.iconst 4, 1) := by decide +kernel
theorem dX12_factOf_105 : decode cX12_factOf 105 = .ok (.ireturn, 1) := by decide +kernel
theorem dX12_factOf_106 : decode cX12_factOf 106 = .ok (.iconst 5, 1) := by decide +kernel
theorem dX12_factOf_107 : decode cX12_factOf 107 = .ok (.ireturn, 1) := by decide +kernel
theorem dX12_factOf_108 : decode cX12_factOf 108 = .ok (.bipush 6, 2) := by decide +kernel
theorem dX12_factOf_110 : decode cX12_factOf 110 = .ok (.ireturn, 1) := by decide +kernel
theorem dX12_factOf_111 : decode cX12_factOf 111 = .ok (.bipush 7, 2) := by decide +kernel
theorem dX12_factOf_113 : decode cX12_factOf 113 = .ok (.ireturn, 1) := by decide +kernel
theorem dX12_factOf_114 : decode cX12_factOf 114 = .ok (.bipush 8, 2) := by decide +kernel
theorem dX12_factOf_116 : decode cX12_factOf 116 = .ok (.ireturn, 1) := by decide +kernel
theorem dX12_factOf_117 : decode cX12_factOf 117 = .ok (.bipush 9, 2) := by decide +kernel
theorem dX12_factOf_119 : decode cX12_factOf 119 = .ok (.ireturn, 1) := by decide +kernel
theorem dX12_factOf_120 : decode cX12_factOf 120 = .ok (.iconst (-1), 1) := by decide +kernel
theorem dX12_factOf_121 : decode cX12_factOf 121 = .ok (.ireturn, 1) := by decide +kernel
theorem dX12_sumSign_0 : decode cX12_sumSign 0 = .ok (.iload_n 0, 1) := by decide +kernel
theorem dX12_sumSign_1 : decode cX12_sumSign 1 = .ok (.bipush 43, 2) := by decide +kernel
theorem dX12_sumSign_3 : decode cX12_sumSign 3 = .ok (.if_icmp .ne 7, 3) := by decide +kernel
theorem dX12_sumSign_6 : decode cX12_sumSign 6 = .ok (.iconst 2, 1) := by decide +kernel
theorem dX12_sumSign_7 : decode cX12_sumSign 7 = .ok (.goto 45, 3) := by decide +kernel
theorem dX12_sumSign_10 : decode cX12_sumSign 10 = .ok (.iload_n 0, 1) := by decide +kernel
theorem dX12_sumSign_11 : decode cX12_sumSign 11 = .ok (.bipush 45, 2) := by decide +kernel
theorem dX12_sumSign_13 : decode cX12_sumSign 13 = .ok (.if_icmp .ne 7, 3) := by decide +kernel
theorem dX12_sumSign_16 : decode cX12_sumSign 16 = .ok (.iconst 3, 1) := by decide +kernel
theorem dX12_sumSign_17 : decode cX12_sumSign 17 = .ok (.goto 35, 3) := by decide +kernel
theorem dX12_sumSign_20 : decode cX12_sumSign 20 = .ok (.iload_n 0, 1) := by decide +kernel
theorem dX12_sumSign_21 : decode cX12_sumSign 21 = .ok (.bipush 42, 2) := by decide +kernel
theorem dX12_sumSign_23 : decode cX12_sumSign 23 = .ok (.if_icmp .ne 7, 3) := by decide +kernel
theorem dX12_sumSign_26 : decode cX12_sumSign 26 = .ok (.iconst 4, 1) := by decide +kernel
theorem dX12_sumSign_27 : decode cX12_sumSign 27 = .ok (.goto 25, 3) := by decide +kernel
theorem dX12_sumSign_30 : decode cX12_sumSign 30 = .ok (.iload_n 0, 1) := by decide +kernel
theorem dX12_sumSign_31 : decode cX12_sumSign 31 = .ok (.bipush 47, 2) := by decide +kernel
theorem dX12_sumSign_33 : decode cX12_sumSign 33 = .ok (.if_icmp .ne 7, 3) := by decide +kernel
theorem dX12_sumSign_36 : decode cX12_sumSign 36 = .ok (.iconst 5, 1) := by decide +kernel
theorem dX12_sumSign_37 : decode cX12_sumSign 37 = .ok (.goto 15, 3) := by decide +kernel
theorem dX12_sumSign_40 : decode cX12_sumSign 40 = .ok (.iload_n 0, 1) := by decide +kernel
theorem dX12_sumSign_41 : decode cX12_sumSign 41 = .ok (.bipush 37, 2) := by decide +kernel
theorem dX12_sumSign_43 : decode cX12_sumSign 43 = .ok (.if_icmp .ne 8, 3) := by decide +kernel
theorem dX12_sumSign_46 : decode cX12_sumSign 46 = .ok (.bipush 6, 2) := by decide +kernel
theorem dX12_sumSign_48 : decode cX12_sumSign 48 = .ok (.goto 4, 3) := by decide +kernel
theorem dX12_sumSign_51 : decode cX12_sumSign 51 = .ok (.iconst (-1), 1) := by decide +kernel
theorem dX12_sumSign_52 : decode cX12_sumSign 52 = .ok (.ireturn, 1) := by decide +kernel
theorem dX12_closesSums_0 : decode cX12_closesSums 0 = .ok (.aload_n 0, 1) := by decide +kernel
theorem dX12_closesSums_1 : decode cX12_closesSums 1 = .ok (.invokevirtual 227, 3) := by decide +kernel
theorem dX12_closesSums_4 : decode cX12_closesSums 4 = .ok (.iconst 4, 1) := by decide +kernel
theorem dX12_closesSums_5 : decode cX12_closesSums 5 = .ok (.if_icmp .lt 12, 3) := by decide +kernel
theorem dX12_closesSums_8 : decode cX12_closesSums 8 = .ok (.aload_n 0, 1) := by decide +kernel
theorem dX12_closesSums_9 : decode cX12_closesSums 9 = .ok (.invokevirtual 227, 3) := by decide +kernel
theorem dX12_closesSums_12 : decode cX12_closesSums 12 = .ok (.bipush 6, 2) := by decide +kernel
theorem dX12_closesSums_14 : decode cX12_closesSums 14 = .ok (.if_icmp .le 23, 3) := by decide +kernel
theorem dX12_closesSums_17 : decode cX12_closesSums 17 = .ok (.iload_n 1, 1) := by decide +kernel
theorem dX12_closesSums_18 : decode cX12_closesSums 18 = .ok (.ifCond .eq 41, 3) := by decide +kernel
theorem dX12_closesSums_21 : decode cX12_closesSums 21 = .ok (.aload_n 0, 1) := by decide +kernel
theorem dX12_closesSums_22 : decode cX12_closesSums 22 = .ok (.invokevirtual 227, 3) := by decide +kernel
theorem dX12_closesSums_25 : decode cX12_closesSums 25 = .ok (.iconst 2, 1) := by decide +kernel
theorem dX12_closesSums_26 : decode cX12_closesSums 26 = .ok (.if_icmp .eq 11, 3) := by decide +kernel
theorem dX12_closesSums_29 : decode cX12_closesSums 29 = .ok (.aload_n 0, 1) := by decide +kernel
theorem dX12_closesSums_30 : decode cX12_closesSums 30 = .ok (.invokevirtual 227, 3) := by decide +kernel
theorem dX12_closesSums_33 : decode cX12_closesSums 33 = .ok (.iconst 3, 1) := by decide +kernel
theorem dX12_closesSums_34 : decode cX12_closesSums 34 = .ok (.if_icmp .ne 25, 3) := by decide +kernel
theorem dX12_closesSums_37 : decode cX12_closesSums 37 = .ok (.aload_n 0, 1) := by decide +kernel
theorem dX12_closesSums_38 : decode cX12_closesSums 38 = .ok (.aload_n 0, 1) := by decide +kernel
theorem dX12_closesSums_39 : decode cX12_closesSums 39 = .ok (.invokevirtual 227, 3) := by decide +kernel
theorem dX12_closesSums_42 : decode cX12_closesSums 42 = .ok (.iconst 0, 1) := by decide +kernel
theorem dX12_closesSums_43 : decode cX12_closesSums 43 = .ok (.invokevirtual 230, 3) := by decide +kernel
theorem dX12_closesSums_46 : decode cX12_closesSums 46 = .ok (.aload_n 0, 1) := by decide +kernel
theorem dX12_closesSums_47 : decode cX12_closesSums 47 = .ok (.aload_n 0, 1) := by decide +kernel
theorem dX12_closesSums_48 : decode cX12_closesSums 48 = .ok (.getfield 224, 3) := by decide +kernel
theorem dX12_closesSums_51 : decode cX12_closesSums 51 = .ok (.iconst 1, 1) := by decide +kernel
theorem dX12_closesSums_52 : decode cX12_closesSums 52 = .ok (.isub, 1) := by decide +kernel
theorem dX12_closesSums_53 : decode cX12_closesSums 53 = .ok (.putfield 224, 3) := by decide +kernel
theorem dX12_closesSums_56 : decode cX12_closesSums 56 = .ok (.goto (-56), 3) := by decide +kernel
theorem dX12_closesSums_59 : decode cX12_closesSums 59 = .ok (.return_, 1) := by decide +kernel
theorem dX12_readsFactor_0 : decode cX12_readsFactor 0 = .ok (.aload_n 0, 1) := by decide +kernel
theorem dX12_readsFactor_1 : decode cX12_readsFactor 1 = .ok (.invokevirtual 199, 3) := by decide +kernel
theorem dX12_readsFactor_4 : decode cX12_readsFactor 4 = .ok (.bipush 91, 2) := by decide +kernel
theorem dX12_readsFactor_6 : decode cX12_readsFactor 6 = .ok (.if_icmp .ne 14, 3) := by decide +kernel
theorem dX12_readsFactor_9 : decode cX12_readsFactor 9 = .ok (.aload_n 0, 1) := by decide +kernel
theorem dX12_readsFactor_10 : decode cX12_readsFactor 10 = .ok (.bipush 14, 2) := by decide +kernel
theorem dX12_readsFactor_12 : decode cX12_readsFactor 12 = .ok (.invokevirtual 234, 3) := by decide +kernel
theorem dX12_readsFactor_15 : decode cX12_readsFactor 15 = .ok (.ifCond .ne (-15), 3) := by decide +kernel
theorem dX12_readsFactor_18 : decode cX12_readsFactor 18 = .ok (.iconst 0, 1) := by decide +kernel
theorem dX12_readsFactor_19 : decode cX12_readsFactor 19 = .ok (.ireturn, 1) := by decide +kernel
theorem dX12_readsFactor_20 : decode cX12_readsFactor 20 = .ok (.aload_n 0, 1) := by decide +kernel
theorem dX12_readsFactor_21 : decode cX12_readsFactor 21 = .ok (.invokevirtual 213, 3) := by decide +kernel
theorem dX12_readsFactor_24 : decode cX12_readsFactor 24 = .ok (.ifCond .eq 23, 3) := by decide +kernel
theorem dX12_readsFactor_27 : decode cX12_readsFactor 27 = .ok (.aload_n 0, 1) := by decide +kernel
theorem dX12_readsFactor_28 : decode cX12_readsFactor 28 = .ok (.invokevirtual 237, 3) := by decide +kernel
theorem dX12_readsFactor_31 : decode cX12_readsFactor 31 = .ok (.ifCond .ne 5, 3) := by decide +kernel
theorem dX12_readsFactor_34 : decode cX12_readsFactor 34 = .ok (.iconst 0, 1) := by decide +kernel
theorem dX12_readsFactor_35 : decode cX12_readsFactor 35 = .ok (.ireturn, 1) := by decide +kernel
theorem dX12_readsFactor_36 : decode cX12_readsFactor 36 = .ok (.aload_n 0, 1) := by decide +kernel
theorem dX12_readsFactor_37 : decode cX12_readsFactor 37 = .ok (.iconst 0, 1) := by decide +kernel
theorem dX12_readsFactor_38 : decode cX12_readsFactor 38 = .ok (.aload_n 0, 1) := by decide +kernel
theorem dX12_readsFactor_39 : decode cX12_readsFactor 39 = .ok (.getfield 210, 3) := by decide +kernel
theorem dX12_readsFactor_42 : decode cX12_readsFactor 42 = .ok (.invokevirtual 230, 3) := by decide +kernel
theorem dX12_readsFactor_45 : decode cX12_readsFactor 45 = .ok (.iconst 1, 1) := by decide +kernel
theorem dX12_readsFactor_46 : decode cX12_readsFactor 46 = .ok (.ireturn, 1) := by decide +kernel
theorem dX12_readsFactor_47 : decode cX12_readsFactor 47 = .ok (.aload_n 0, 1) := by decide +kernel
theorem dX12_readsFactor_48 : decode cX12_readsFactor 48 = .ok (.invokevirtual 199, 3) := by decide +kernel
theorem dX12_readsFactor_51 : decode cX12_readsFactor 51 = .ok (.invokestatic 240, 3) := by decide +kernel
theorem dX12_readsFactor_54 : decode cX12_readsFactor 54 = .ok (.istore_n 1, 1) := by decide +kernel
theorem dX12_readsFactor_55 : decode cX12_readsFactor 55 = .ok (.iload_n 1, 1) := by decide +kernel
theorem dX12_readsFactor_56 : decode cX12_readsFactor 56 = .ok (.iconst (-1), 1) := by decide +kernel
theorem dX12_readsFactor_57 : decode cX12_readsFactor 57 = .ok (.if_icmp .ne 13, 3) := by decide +kernel
theorem dX12_readsFactor_60 : decode cX12_readsFactor 60 = .ok (.aload_n 0, 1) := by decide +kernel
theorem dX12_readsFactor_61 : decode cX12_readsFactor 61 = .ok (.iconst 1, 1) := by decide +kernel
theorem dX12_readsFactor_62 : decode cX12_readsFactor 62 = .ok (.aload_n 0, 1) := by decide +kernel
theorem dX12_readsFactor_63 : decode cX12_readsFactor 63 = .ok (.getfield 193, 3) := by decide +kernel
theorem dX12_readsFactor_66 : decode cX12_readsFactor 66 = .ok (.invokevirtual 206, 3) := by decide +kernel
theorem dX12_readsFactor_69 : decode cX12_readsFactor 69 = .ok (.ireturn, 1) := by decide +kernel
theorem dX12_readsFactor_70 : decode cX12_readsFactor 70 = .ok (.aload_n 0, 1) := by decide +kernel
theorem dX12_readsFactor_71 : decode cX12_readsFactor 71 = .ok (.iconst 1, 1) := by decide +kernel
theorem dX12_readsFactor_72 : decode cX12_readsFactor 72 = .ok (.iload_n 1, 1) := by decide +kernel
theorem dX12_readsFactor_73 : decode cX12_readsFactor 73 = .ok (.invokevirtual 230, 3) := by decide +kernel
theorem dX12_readsFactor_76 : decode cX12_readsFactor 76 = .ok (.aload_n 0, 1) := by decide +kernel
theorem dX12_readsFactor_77 : decode cX12_readsFactor 77 = .ok (.aload_n 0, 1) := by decide +kernel
theorem dX12_readsFactor_78 : decode cX12_readsFactor 78 = .ok (.getfield 193, 3) := by decide +kernel
theorem dX12_readsFactor_81 : decode cX12_readsFactor 81 = .ok (.iconst 1, 1) := by decide +kernel
theorem dX12_readsFactor_82 : decode cX12_readsFactor 82 = .ok (.iadd, 1) := by decide +kernel
theorem dX12_readsFactor_83 : decode cX12_readsFactor 83 = .ok (.putfield 193, 3) := by decide +kernel
theorem dX12_readsFactor_86 : decode cX12_readsFactor 86 = .ok (.iconst 1, 1) := by decide +kernel
theorem dX12_readsFactor_87 : decode cX12_readsFactor 87 = .ok (.ireturn, 1) := by decide +kernel
theorem dX12_hasOpenSum_0 : decode cX12_hasOpenSum 0 = .ok (.iload_n 1, 1) := by decide +kernel
theorem dX12_hasOpenSum_1 : decode cX12_hasOpenSum 1 = .ok (.istore_n 2, 1) := by decide +kernel
theorem dX12_hasOpenSum_2 : decode cX12_hasOpenSum 2 = .ok (.iload_n 2, 1) := by decide +kernel
theorem dX12_hasOpenSum_3 : decode cX12_hasOpenSum 3 = .ok (.aload_n 0, 1) := by decide +kernel
theorem dX12_hasOpenSum_4 : decode cX12_hasOpenSum 4 = .ok (.getfield 224, 3) := by decide +kernel
theorem dX12_hasOpenSum_7 : decode cX12_hasOpenSum 7 = .ok (.if_icmp .ge 25, 3) := by decide +kernel
theorem dX12_hasOpenSum_10 : decode cX12_hasOpenSum 10 = .ok (.aload_n 0, 1) := by decide +kernel
theorem dX12_hasOpenSum_11 : decode cX12_hasOpenSum 11 = .ok (.getfield 29, 3) := by decide +kernel
theorem dX12_hasOpenSum_14 : decode cX12_hasOpenSum 14 = .ok (.iload_n 2, 1) := by decide +kernel
theorem dX12_hasOpenSum_15 : decode cX12_hasOpenSum 15 = .ok (.iaload, 1) := by decide +kernel
theorem dX12_hasOpenSum_16 : decode cX12_hasOpenSum 16 = .ok (.ldc 220, 2) := by decide +kernel
theorem dX12_hasOpenSum_18 : decode cX12_hasOpenSum 18 = .ok (.idiv, 1) := by decide +kernel
theorem dX12_hasOpenSum_19 : decode cX12_hasOpenSum 19 = .ok (.bipush 14, 2) := by decide +kernel
theorem dX12_hasOpenSum_21 : decode cX12_hasOpenSum 21 = .ok (.if_icmp .ne 5, 3) := by decide +kernel
theorem dX12_hasOpenSum_24 : decode cX12_hasOpenSum 24 = .ok (.iconst 1, 1) := by decide +kernel
theorem dX12_hasOpenSum_25 : decode cX12_hasOpenSum 25 = .ok (.ireturn, 1) := by decide +kernel
theorem dX12_hasOpenSum_26 : decode cX12_hasOpenSum 26 = .ok (.iinc 2 1, 3) := by decide +kernel
theorem dX12_hasOpenSum_29 : decode cX12_hasOpenSum 29 = .ok (.goto (-27), 3) := by decide +kernel
theorem dX12_hasOpenSum_32 : decode cX12_hasOpenSum 32 = .ok (.iconst 0, 1) := by decide +kernel
theorem dX12_hasOpenSum_33 : decode cX12_hasOpenSum 33 = .ok (.ireturn, 1) := by decide +kernel
theorem dX12_readsSum_0 : decode cX12_readsSum 0 = .ok (.aload_n 0, 1) := by decide +kernel
theorem dX12_readsSum_1 : decode cX12_readsSum 1 = .ok (.getfield 224, 3) := by decide +kernel
theorem dX12_readsSum_4 : decode cX12_readsSum 4 = .ok (.istore_n 1, 1) := by decide +kernel
theorem dX12_readsSum_5 : decode cX12_readsSum 5 = .ok (.aload_n 0, 1) := by decide +kernel
theorem dX12_readsSum_6 : decode cX12_readsSum 6 = .ok (.invokevirtual 243, 3) := by decide +kernel
theorem dX12_readsSum_9 : decode cX12_readsSum 9 = .ok (.ifCond .ne 5, 3) := by decide +kernel
theorem dX12_readsSum_12 : decode cX12_readsSum 12 = .ok (.iconst 0, 1) := by decide +kernel
theorem dX12_readsSum_13 : decode cX12_readsSum 13 = .ok (.ireturn, 1) := by decide +kernel
theorem dX12_readsSum_14 : decode cX12_readsSum 14 = .ok (.aload_n 0, 1) := by decide +kernel
theorem dX12_readsSum_15 : decode cX12_readsSum 15 = .ok (.invokevirtual 199, 3) := by decide +kernel
theorem dX12_readsSum_18 : decode cX12_readsSum 18 = .ok (.invokestatic 246, 3) := by decide +kernel
theorem dX12_readsSum_21 : decode cX12_readsSum 21 = .ok (.istore_n 2, 1) := by decide +kernel
theorem dX12_readsSum_22 : decode cX12_readsSum 22 = .ok (.iload_n 2, 1) := by decide +kernel
theorem dX12_readsSum_23 : decode cX12_readsSum 23 = .ok (.iconst (-1), 1) := by decide +kernel
theorem dX12_readsSum_24 : decode cX12_readsSum 24 = .ok (.if_icmp .eq 59, 3) := by decide +kernel
theorem dX12_readsSum_27 : decode cX12_readsSum 27 = .ok (.aload_n 0, 1) := by decide +kernel
theorem dX12_readsSum_28 : decode cX12_readsSum 28 = .ok (.iload_n 2, 1) := by decide +kernel
theorem dX12_readsSum_29 : decode cX12_readsSum 29 = .ok (.iconst 4, 1) := by decide +kernel
theorem dX12_readsSum_30 : decode cX12_readsSum 30 = .ok (.if_icmp .ge 7, 3) := by decide +kernel
theorem dX12_readsSum_33 : decode cX12_readsSum 33 = .ok (.iconst 1, 1) := by decide +kernel
theorem dX12_readsSum_34 : decode cX12_readsSum 34 = .ok (.goto 4, 3) := by decide +kernel
theorem dX12_readsSum_37 : decode cX12_readsSum 37 = .ok (.iconst 0, 1) := by decide +kernel
theorem dX12_readsSum_38 : decode cX12_readsSum 38 = .ok (.invokevirtual 249, 3) := by decide +kernel
theorem dX12_readsSum_41 : decode cX12_readsSum 41 = .ok (.aload_n 0, 1) := by decide +kernel
theorem dX12_readsSum_42 : decode cX12_readsSum 42 = .ok (.getfield 29, 3) := by decide +kernel
theorem dX12_readsSum_45 : decode cX12_readsSum 45 = .ok (.aload_n 0, 1) := by decide +kernel
theorem dX12_readsSum_46 : decode cX12_readsSum 46 = .ok (.getfield 224, 3) := by decide +kernel
theorem dX12_readsSum_49 : decode cX12_readsSum 49 = .ok (.ldc 220, 2) := by decide +kernel
theorem dX12_readsSum_51 : decode cX12_readsSum 51 = .ok (.iload_n 2, 1) := by decide +kernel
theorem dX12_readsSum_52 : decode cX12_readsSum 52 = .ok (.imul, 1) := by decide +kernel
theorem dX12_readsSum_53 : decode cX12_readsSum 53 = .ok (.iastore, 1) := by decide +kernel
theorem dX12_readsSum_54 : decode cX12_readsSum 54 = .ok (.aload_n 0, 1) := by decide +kernel
theorem dX12_readsSum_55 : decode cX12_readsSum 55 = .ok (.aload_n 0, 1) := by decide +kernel
theorem dX12_readsSum_56 : decode cX12_readsSum 56 = .ok (.getfield 224, 3) := by decide +kernel
theorem dX12_readsSum_59 : decode cX12_readsSum 59 = .ok (.iconst 1, 1) := by decide +kernel
theorem dX12_readsSum_60 : decode cX12_readsSum 60 = .ok (.iadd, 1) := by decide +kernel
theorem dX12_readsSum_61 : decode cX12_readsSum 61 = .ok (.putfield 224, 3) := by decide +kernel
theorem dX12_readsSum_64 : decode cX12_readsSum 64 = .ok (.aload_n 0, 1) := by decide +kernel
theorem dX12_readsSum_65 : decode cX12_readsSum 65 = .ok (.aload_n 0, 1) := by decide +kernel
theorem dX12_readsSum_66 : decode cX12_readsSum 66 = .ok (.getfield 193, 3) := by decide +kernel
theorem dX12_readsSum_69 : decode cX12_readsSum 69 = .ok (.iconst 1, 1) := by decide +kernel
theorem dX12_readsSum_70 : decode cX12_readsSum 70 = .ok (.iadd, 1) := by decide +kernel
theorem dX12_readsSum_71 : decode cX12_readsSum 71 = .ok (.putfield 193, 3) := by decide +kernel
theorem dX12_readsSum_74 : decode cX12_readsSum 74 = .ok (.aload_n 0, 1) := by decide +kernel
theorem dX12_readsSum_75 : decode cX12_readsSum 75 = .ok (.invokevirtual 243, 3) := by decide +kernel
theorem dX12_readsSum_78 : decode cX12_readsSum 78 = .ok (.ifCond .ne 85, 3) := by decide +kernel
theorem dX12_readsSum_81 : decode cX12_readsSum 81 = .ok (.iconst 0, 1) := by decide +kernel
theorem dX12_readsSum_82 : decode cX12_readsSum 82 = .ok (.ireturn, 1) := by decide +kernel
theorem dX12_readsSum_83 : decode cX12_readsSum 83 = .ok (.aload_n 0, 1) := by decide +kernel
theorem dX12_readsSum_84 : decode cX12_readsSum 84 = .ok (.invokevirtual 199, 3) := by decide +kernel
theorem dX12_readsSum_87 : decode cX12_readsSum 87 = .ok (.bipush 93, 2) := by decide +kernel
theorem dX12_readsSum_89 : decode cX12_readsSum 89 = .ok (.if_icmp .ne 49, 3) := by decide +kernel
theorem dX12_readsSum_92 : decode cX12_readsSum 92 = .ok (.aload_n 0, 1) := by decide +kernel
theorem dX12_readsSum_93 : decode cX12_readsSum 93 = .ok (.iload_n 1, 1) := by decide +kernel
theorem dX12_readsSum_94 : decode cX12_readsSum 94 = .ok (.invokevirtual 253, 3) := by decide +kernel
theorem dX12_readsSum_97 : decode cX12_readsSum 97 = .ok (.ifCond .eq 41, 3) := by decide +kernel
theorem dX12_readsSum_100 : decode cX12_readsSum 100 = .ok (.aload_n 0, 1) := by decide +kernel
theorem dX12_readsSum_101 : decode cX12_readsSum 101 = .ok (.iconst 1, 1) := by decide +kernel
theorem dX12_readsSum_102 : decode cX12_readsSum 102 = .ok (.invokevirtual 249, 3) := by decide +kernel
theorem dX12_readsSum_105 : decode cX12_readsSum 105 = .ok (.aload_n 0, 1) := by decide +kernel
theorem dX12_readsSum_106 : decode cX12_readsSum 106 = .ok (.aload_n 0, 1) := by decide +kernel
theorem dX12_readsSum_107 : decode cX12_readsSum 107 = .ok (.getfield 224, 3) := by decide +kernel
theorem dX12_readsSum_110 : decode cX12_readsSum 110 = .ok (.iconst 1, 1) := by decide +kernel
theorem dX12_readsSum_111 : decode cX12_readsSum 111 = .ok (.isub, 1) := by decide +kernel
theorem dX12_readsSum_112 : decode cX12_readsSum 112 = .ok (.putfield 224, 3) := by decide +kernel
theorem dX12_readsSum_115 : decode cX12_readsSum 115 = .ok (.aload_n 0, 1) := by decide +kernel
theorem dX12_readsSum_116 : decode cX12_readsSum 116 = .ok (.aload_n 0, 1) := by decide +kernel
theorem dX12_readsSum_117 : decode cX12_readsSum 117 = .ok (.getfield 221, 3) := by decide +kernel
theorem dX12_readsSum_120 : decode cX12_readsSum 120 = .ok (.iconst 1, 1) := by decide +kernel
theorem dX12_readsSum_121 : decode cX12_readsSum 121 = .ok (.isub, 1) := by decide +kernel
theorem dX12_readsSum_122 : decode cX12_readsSum 122 = .ok (.putfield 221, 3) := by decide +kernel
theorem dX12_readsSum_125 : decode cX12_readsSum 125 = .ok (.aload_n 0, 1) := by decide +kernel
theorem dX12_readsSum_126 : decode cX12_readsSum 126 = .ok (.aload_n 0, 1) := by decide +kernel
theorem dX12_readsSum_127 : decode cX12_readsSum 127 = .ok (.getfield 193, 3) := by decide +kernel
theorem dX12_readsSum_130 : decode cX12_readsSum 130 = .ok (.iconst 1, 1) := by decide +kernel
theorem dX12_readsSum_131 : decode cX12_readsSum 131 = .ok (.iadd, 1) := by decide +kernel
theorem dX12_readsSum_132 : decode cX12_readsSum 132 = .ok (.putfield 193, 3) := by decide +kernel
theorem dX12_readsSum_135 : decode cX12_readsSum 135 = .ok (.goto 28, 3) := by decide +kernel
theorem dX12_readsSum_138 : decode cX12_readsSum 138 = .ok (.aload_n 0, 1) := by decide +kernel
theorem dX12_readsSum_139 : decode cX12_readsSum 139 = .ok (.iload_n 1, 1) := by decide +kernel
theorem dX12_readsSum_140 : decode cX12_readsSum 140 = .ok (.invokevirtual 253, 3) := by decide +kernel
theorem dX12_readsSum_143 : decode cX12_readsSum 143 = .ok (.ifCond .eq 13, 3) := by decide +kernel
theorem dX12_readsSum_146 : decode cX12_readsSum 146 = .ok (.aload_n 0, 1) := by decide +kernel
theorem dX12_readsSum_147 : decode cX12_readsSum 147 = .ok (.iconst 1, 1) := by decide +kernel
theorem dX12_readsSum_148 : decode cX12_readsSum 148 = .ok (.aload_n 0, 1) := by decide +kernel
theorem dX12_readsSum_149 : decode cX12_readsSum 149 = .ok (.getfield 193, 3) := by decide +kernel
theorem dX12_readsSum_152 : decode cX12_readsSum 152 = .ok (.invokevirtual 206, 3) := by decide +kernel
theorem dX12_readsSum_155 : decode cX12_readsSum 155 = .ok (.ireturn, 1) := by decide +kernel
theorem dX12_readsSum_156 : decode cX12_readsSum 156 = .ok (.aload_n 0, 1) := by decide +kernel
theorem dX12_readsSum_157 : decode cX12_readsSum 157 = .ok (.iconst 1, 1) := by decide +kernel
theorem dX12_readsSum_158 : decode cX12_readsSum 158 = .ok (.invokevirtual 249, 3) := by decide +kernel
theorem dX12_readsSum_161 : decode cX12_readsSum 161 = .ok (.iconst 1, 1) := by decide +kernel
theorem dX12_readsSum_162 : decode cX12_readsSum 162 = .ok (.ireturn, 1) := by decide +kernel
theorem dX12_readsSum_163 : decode cX12_readsSum 163 = .ok (.goto (-149), 3) := by decide +kernel
theorem dX12_endsPiece_0 : decode cX12_endsPiece 0 = .ok (.aload_n 0, 1) := by decide +kernel
theorem dX12_endsPiece_1 : decode cX12_endsPiece 1 = .ok (.invokevirtual 227, 3) := by decide +kernel
theorem dX12_endsPiece_4 : decode cX12_endsPiece 4 = .ok (.bipush 10, 2) := by decide +kernel
theorem dX12_endsPiece_6 : decode cX12_endsPiece 6 = .ok (.if_icmp .ne 33, 3) := by decide +kernel
theorem dX12_endsPiece_9 : decode cX12_endsPiece 9 = .ok (.aload_n 0, 1) := by decide +kernel
theorem dX12_endsPiece_10 : decode cX12_endsPiece 10 = .ok (.bipush 10, 2) := by decide +kernel
theorem dX12_endsPiece_12 : decode cX12_endsPiece 12 = .ok (.iconst 0, 1) := by decide +kernel
theorem dX12_endsPiece_13 : decode cX12_endsPiece 13 = .ok (.invokevirtual 230, 3) := by decide +kernel
theorem dX12_endsPiece_16 : decode cX12_endsPiece 16 = .ok (.aload_n 0, 1) := by decide +kernel
theorem dX12_endsPiece_17 : decode cX12_endsPiece 17 = .ok (.aload_n 0, 1) := by decide +kernel
theorem dX12_endsPiece_18 : decode cX12_endsPiece 18 = .ok (.getfield 224, 3) := by decide +kernel
theorem dX12_endsPiece_21 : decode cX12_endsPiece 21 = .ok (.iconst 1, 1) := by decide +kernel
theorem dX12_endsPiece_22 : decode cX12_endsPiece 22 = .ok (.isub, 1) := by decide +kernel
theorem dX12_endsPiece_23 : decode cX12_endsPiece 23 = .ok (.putfield 224, 3) := by decide +kernel
theorem dX12_endsPiece_26 : decode cX12_endsPiece 26 = .ok (.aload_n 0, 1) := by decide +kernel
theorem dX12_endsPiece_27 : decode cX12_endsPiece 27 = .ok (.aload_n 0, 1) := by decide +kernel
theorem dX12_endsPiece_28 : decode cX12_endsPiece 28 = .ok (.getfield 221, 3) := by decide +kernel
theorem dX12_endsPiece_31 : decode cX12_endsPiece 31 = .ok (.iconst 1, 1) := by decide +kernel
theorem dX12_endsPiece_32 : decode cX12_endsPiece 32 = .ok (.isub, 1) := by decide +kernel
theorem dX12_endsPiece_33 : decode cX12_endsPiece 33 = .ok (.putfield 221, 3) := by decide +kernel
theorem dX12_endsPiece_36 : decode cX12_endsPiece 36 = .ok (.goto (-36), 3) := by decide +kernel
theorem dX12_endsPiece_39 : decode cX12_endsPiece 39 = .ok (.return_, 1) := by decide +kernel
theorem dX12_lands_0 : decode cX12_lands 0 = .ok (.aload_n 0, 1) := by decide +kernel
theorem dX12_lands_1 : decode cX12_lands 1 = .ok (.invokevirtual 227, 3) := by decide +kernel
theorem dX12_lands_4 : decode cX12_lands 4 = .ok (.bipush 11, 2) := by decide +kernel
theorem dX12_lands_6 : decode cX12_lands 6 = .ok (.if_icmp .eq 16, 3) := by decide +kernel
theorem dX12_lands_9 : decode cX12_lands 9 = .ok (.iload_n 1, 1) := by decide +kernel
theorem dX12_lands_10 : decode cX12_lands 10 = .ok (.ifCond .eq 63, 3) := by decide +kernel
theorem dX12_lands_13 : decode cX12_lands 13 = .ok (.aload_n 0, 1) := by decide +kernel
theorem dX12_lands_14 : decode cX12_lands 14 = .ok (.invokevirtual 227, 3) := by decide +kernel
theorem dX12_lands_17 : decode cX12_lands 17 = .ok (.bipush 12, 2) := by decide +kernel
theorem dX12_lands_19 : decode cX12_lands 19 = .ok (.if_icmp .ne 54, 3) := by decide +kernel
theorem dX12_lands_22 : decode cX12_lands 22 = .ok (.aload_n 0, 1) := by decide +kernel
theorem dX12_lands_23 : decode cX12_lands 23 = .ok (.getfield 29, 3) := by decide +kernel
theorem dX12_lands_26 : decode cX12_lands 26 = .ok (.aload_n 0, 1) := by decide +kernel
theorem dX12_lands_27 : decode cX12_lands 27 = .ok (.getfield 224, 3) := by decide +kernel
theorem dX12_lands_30 : decode cX12_lands 30 = .ok (.iconst 1, 1) := by decide +kernel
theorem dX12_lands_31 : decode cX12_lands 31 = .ok (.isub, 1) := by decide +kernel
theorem dX12_lands_32 : decode cX12_lands 32 = .ok (.iaload, 1) := by decide +kernel
theorem dX12_lands_33 : decode cX12_lands 33 = .ok (.ldc 220, 2) := by decide +kernel
theorem dX12_lands_35 : decode cX12_lands 35 = .ok (.irem, 1) := by decide +kernel
theorem dX12_lands_36 : decode cX12_lands 36 = .ok (.istore_n 2, 1) := by decide +kernel
theorem dX12_lands_37 : decode cX12_lands 37 = .ok (.aload_n 0, 1) := by decide +kernel
theorem dX12_lands_38 : decode cX12_lands 38 = .ok (.getfield 26, 3) := by decide +kernel
theorem dX12_lands_41 : decode cX12_lands 41 = .ok (.iload_n 2, 1) := by decide +kernel
theorem dX12_lands_42 : decode cX12_lands 42 = .ok (.ldc 220, 2) := by decide +kernel
theorem dX12_lands_44 : decode cX12_lands 44 = .ok (.aload_n 0, 1) := by decide +kernel
theorem dX12_lands_45 : decode cX12_lands 45 = .ok (.getfield 26, 3) := by decide +kernel
theorem dX12_lands_48 : decode cX12_lands 48 = .ok (.iload_n 2, 1) := by decide +kernel
theorem dX12_lands_49 : decode cX12_lands 49 = .ok (.iaload, 1) := by decide +kernel
theorem dX12_lands_50 : decode cX12_lands 50 = .ok (.ldc 220, 2) := by decide +kernel
theorem dX12_lands_52 : decode cX12_lands 52 = .ok (.idiv, 1) := by decide +kernel
theorem dX12_lands_53 : decode cX12_lands 53 = .ok (.imul, 1) := by decide +kernel
theorem dX12_lands_54 : decode cX12_lands 54 = .ok (.aload_n 0, 1) := by decide +kernel
theorem dX12_lands_55 : decode cX12_lands 55 = .ok (.getfield 217, 3) := by decide +kernel
theorem dX12_lands_58 : decode cX12_lands 58 = .ok (.iadd, 1) := by decide +kernel
theorem dX12_lands_59 : decode cX12_lands 59 = .ok (.iastore, 1) := by decide +kernel
theorem dX12_lands_60 : decode cX12_lands 60 = .ok (.aload_n 0, 1) := by decide +kernel
theorem dX12_lands_61 : decode cX12_lands 61 = .ok (.aload_n 0, 1) := by decide +kernel
theorem dX12_lands_62 : decode cX12_lands 62 = .ok (.getfield 224, 3) := by decide +kernel
theorem dX12_lands_65 : decode cX12_lands 65 = .ok (.iconst 1, 1) := by decide +kernel
theorem dX12_lands_66 : decode cX12_lands 66 = .ok (.isub, 1) := by decide +kernel
theorem dX12_lands_67 : decode cX12_lands 67 = .ok (.putfield 224, 3) := by decide +kernel
theorem dX12_lands_70 : decode cX12_lands 70 = .ok (.goto (-70), 3) := by decide +kernel
theorem dX12_lands_73 : decode cX12_lands 73 = .ok (.return_, 1) := by decide +kernel
theorem dX12_jumps_0 : decode cX12_jumps 0 = .ok (.aload_n 0, 1) := by decide +kernel
theorem dX12_jumps_1 : decode cX12_jumps 1 = .ok (.getfield 29, 3) := by decide +kernel
theorem dX12_jumps_4 : decode cX12_jumps 4 = .ok (.aload_n 0, 1) := by decide +kernel
theorem dX12_jumps_5 : decode cX12_jumps 5 = .ok (.getfield 224, 3) := by decide +kernel
theorem dX12_jumps_8 : decode cX12_jumps 8 = .ok (.ldc 220, 2) := by decide +kernel
theorem dX12_jumps_10 : decode cX12_jumps 10 = .ok (.iload_n 1, 1) := by decide +kernel
theorem dX12_jumps_11 : decode cX12_jumps 11 = .ok (.imul, 1) := by decide +kernel
theorem dX12_jumps_12 : decode cX12_jumps 12 = .ok (.aload_n 0, 1) := by decide +kernel
theorem dX12_jumps_13 : decode cX12_jumps 13 = .ok (.getfield 217, 3) := by decide +kernel
theorem dX12_jumps_16 : decode cX12_jumps 16 = .ok (.iadd, 1) := by decide +kernel
theorem dX12_jumps_17 : decode cX12_jumps 17 = .ok (.iastore, 1) := by decide +kernel
theorem dX12_jumps_18 : decode cX12_jumps 18 = .ok (.aload_n 0, 1) := by decide +kernel
theorem dX12_jumps_19 : decode cX12_jumps 19 = .ok (.aload_n 0, 1) := by decide +kernel
theorem dX12_jumps_20 : decode cX12_jumps 20 = .ok (.getfield 224, 3) := by decide +kernel
theorem dX12_jumps_23 : decode cX12_jumps 23 = .ok (.iconst 1, 1) := by decide +kernel
theorem dX12_jumps_24 : decode cX12_jumps 24 = .ok (.iadd, 1) := by decide +kernel
theorem dX12_jumps_25 : decode cX12_jumps 25 = .ok (.putfield 224, 3) := by decide +kernel
theorem dX12_jumps_28 : decode cX12_jumps 28 = .ok (.aload_n 0, 1) := by decide +kernel
theorem dX12_jumps_29 : decode cX12_jumps 29 = .ok (.iload_n 1, 1) := by decide +kernel
theorem dX12_jumps_30 : decode cX12_jumps 30 = .ok (.iconst 0, 1) := by decide +kernel
theorem dX12_jumps_31 : decode cX12_jumps 31 = .ok (.invokevirtual 230, 3) := by decide +kernel
theorem dX12_jumps_34 : decode cX12_jumps 34 = .ok (.aload_n 0, 1) := by decide +kernel
theorem dX12_jumps_35 : decode cX12_jumps 35 = .ok (.aload_n 0, 1) := by decide +kernel
theorem dX12_jumps_36 : decode cX12_jumps 36 = .ok (.getfield 193, 3) := by decide +kernel
theorem dX12_jumps_39 : decode cX12_jumps 39 = .ok (.iconst 1, 1) := by decide +kernel
theorem dX12_jumps_40 : decode cX12_jumps 40 = .ok (.iadd, 1) := by decide +kernel
theorem dX12_jumps_41 : decode cX12_jumps 41 = .ok (.putfield 193, 3) := by decide +kernel
theorem dX12_jumps_44 : decode cX12_jumps 44 = .ok (.return_, 1) := by decide +kernel
theorem dX12_readsCompared_0 : decode cX12_readsCompared 0 = .ok (.aload_n 0, 1) := by decide +kernel
theorem dX12_readsCompared_1 : decode cX12_readsCompared 1 = .ok (.invokevirtual 256, 3) := by decide +kernel
theorem dX12_readsCompared_4 : decode cX12_readsCompared 4 = .ok (.ifCond .ne 5, 3) := by decide +kernel
theorem dX12_readsCompared_7 : decode cX12_readsCompared 7 = .ok (.iconst 0, 1) := by decide +kernel
theorem dX12_readsCompared_8 : decode cX12_readsCompared 8 = .ok (.ireturn, 1) := by decide +kernel
theorem dX12_readsCompared_9 : decode cX12_readsCompared 9 = .ok (.aload_n 0, 1) := by decide +kernel
theorem dX12_readsCompared_10 : decode cX12_readsCompared 10 = .ok (.invokevirtual 199, 3) := by decide +kernel
theorem dX12_readsCompared_13 : decode cX12_readsCompared 13 = .ok (.bipush 60, 2) := by decide +kernel
theorem dX12_readsCompared_15 : decode cX12_readsCompared 15 = .ok (.if_icmp .ne 8, 3) := by decide +kernel
theorem dX12_readsCompared_18 : decode cX12_readsCompared 18 = .ok (.bipush 7, 2) := by decide +kernel
theorem dX12_readsCompared_20 : decode cX12_readsCompared 20 = .ok (.goto 32, 3) := by decide +kernel
theorem dX12_readsCompared_23 : decode cX12_readsCompared 23 = .ok (.aload_n 0, 1) := by decide +kernel
theorem dX12_readsCompared_24 : decode cX12_readsCompared 24 = .ok (.invokevirtual 199, 3) := by decide +kernel
theorem dX12_readsCompared_27 : decode cX12_readsCompared 27 = .ok (.bipush 62, 2) := by decide +kernel
theorem dX12_readsCompared_29 : decode cX12_readsCompared 29 = .ok (.if_icmp .ne 8, 3) := by decide +kernel
theorem dX12_readsCompared_32 : decode cX12_readsCompared 32 = .ok (.bipush 8, 2) := by decide +kernel
theorem dX12_readsCompared_34 : decode cX12_readsCompared 34 = .ok (.goto 18, 3) := by decide +kernel
theorem dX12_readsCompared_37 : decode cX12_readsCompared 37 = .ok (.aload_n 0, 1) := by decide +kernel
theorem dX12_readsCompared_38 : decode cX12_readsCompared 38 = .ok (.invokevirtual 199, 3) := by decide +kernel
theorem dX12_readsCompared_41 : decode cX12_readsCompared 41 = .ok (.bipush 61, 2) := by decide +kernel
theorem dX12_readsCompared_43 : decode cX12_readsCompared 43 = .ok (.if_icmp .ne 8, 3) := by decide +kernel
theorem dX12_readsCompared_46 : decode cX12_readsCompared 46 = .ok (.bipush 9, 2) := by decide +kernel
theorem dX12_readsCompared_48 : decode cX12_readsCompared 48 = .ok (.goto 4, 3) := by decide +kernel
theorem dX12_readsCompared_51 : decode cX12_readsCompared 51 = .ok (.iconst (-1), 1) := by decide +kernel
theorem dX12_readsCompared_52 : decode cX12_readsCompared 52 = .ok (.istore_n 1, 1) := by decide +kernel
theorem dX12_readsCompared_53 : decode cX12_readsCompared 53 = .ok (.iload_n 1, 1) := by decide +kernel
theorem dX12_readsCompared_54 : decode cX12_readsCompared 54 = .ok (.iconst (-1), 1) := by decide +kernel
theorem dX12_readsCompared_55 : decode cX12_readsCompared 55 = .ok (.if_icmp .ne 13, 3) := by decide +kernel
theorem dX12_readsCompared_58 : decode cX12_readsCompared 58 = .ok (.aload_n 0, 1) := by decide +kernel
theorem dX12_readsCompared_59 : decode cX12_readsCompared 59 = .ok (.iconst 1, 1) := by decide +kernel
theorem dX12_readsCompared_60 : decode cX12_readsCompared 60 = .ok (.aload_n 0, 1) := by decide +kernel
theorem dX12_readsCompared_61 : decode cX12_readsCompared 61 = .ok (.getfield 193, 3) := by decide +kernel
theorem dX12_readsCompared_64 : decode cX12_readsCompared 64 = .ok (.invokevirtual 206, 3) := by decide +kernel
theorem dX12_readsCompared_67 : decode cX12_readsCompared 67 = .ok (.ireturn, 1) := by decide +kernel
theorem dX12_readsCompared_68 : decode cX12_readsCompared 68 = .ok (.aload_n 0, 1) := by decide +kernel
theorem dX12_readsCompared_69 : decode cX12_readsCompared 69 = .ok (.aload_n 0, 1) := by decide +kernel
theorem dX12_readsCompared_70 : decode cX12_readsCompared 70 = .ok (.getfield 193, 3) := by decide +kernel
theorem dX12_readsCompared_73 : decode cX12_readsCompared 73 = .ok (.iconst 1, 1) := by decide +kernel
theorem dX12_readsCompared_74 : decode cX12_readsCompared 74 = .ok (.iadd, 1) := by decide +kernel
theorem dX12_readsCompared_75 : decode cX12_readsCompared 75 = .ok (.putfield 193, 3) := by decide +kernel
theorem dX12_readsCompared_78 : decode cX12_readsCompared 78 = .ok (.aload_n 0, 1) := by decide +kernel
theorem dX12_readsCompared_79 : decode cX12_readsCompared 79 = .ok (.invokevirtual 256, 3) := by decide +kernel
theorem dX12_readsCompared_82 : decode cX12_readsCompared 82 = .ok (.ifCond .ne 5, 3) := by decide +kernel
theorem dX12_readsCompared_85 : decode cX12_readsCompared 85 = .ok (.iconst 0, 1) := by decide +kernel
theorem dX12_readsCompared_86 : decode cX12_readsCompared 86 = .ok (.ireturn, 1) := by decide +kernel
theorem dX12_readsCompared_87 : decode cX12_readsCompared 87 = .ok (.aload_n 0, 1) := by decide +kernel
theorem dX12_readsCompared_88 : decode cX12_readsCompared 88 = .ok (.iload_n 1, 1) := by decide +kernel
theorem dX12_readsCompared_89 : decode cX12_readsCompared 89 = .ok (.iconst 0, 1) := by decide +kernel
theorem dX12_readsCompared_90 : decode cX12_readsCompared 90 = .ok (.invokevirtual 230, 3) := by decide +kernel
theorem dX12_readsCompared_93 : decode cX12_readsCompared 93 = .ok (.aload_n 0, 1) := by decide +kernel
theorem dX12_readsCompared_94 : decode cX12_readsCompared 94 = .ok (.invokevirtual 259, 3) := by decide +kernel
theorem dX12_readsCompared_97 : decode cX12_readsCompared 97 = .ok (.iconst 1, 1) := by decide +kernel
theorem dX12_readsCompared_98 : decode cX12_readsCompared 98 = .ok (.ireturn, 1) := by decide +kernel
theorem dX12_readsCondition_0 : decode cX12_readsCondition 0 = .ok (.aload_n 0, 1) := by decide +kernel
theorem dX12_readsCondition_1 : decode cX12_readsCondition 1 = .ok (.invokevirtual 199, 3) := by decide +kernel
theorem dX12_readsCondition_4 : decode cX12_readsCondition 4 = .ok (.bipush 40, 2) := by decide +kernel
theorem dX12_readsCondition_6 : decode cX12_readsCondition 6 = .ok (.if_icmp .eq 13, 3) := by decide +kernel
theorem dX12_readsCondition_9 : decode cX12_readsCondition 9 = .ok (.aload_n 0, 1) := by decide +kernel
theorem dX12_readsCondition_10 : decode cX12_readsCondition 10 = .ok (.iconst 1, 1) := by decide +kernel
theorem dX12_readsCondition_11 : decode cX12_readsCondition 11 = .ok (.aload_n 0, 1) := by decide +kernel
theorem dX12_readsCondition_12 : decode cX12_readsCondition 12 = .ok (.getfield 193, 3) := by decide +kernel
theorem dX12_readsCondition_15 : decode cX12_readsCondition 15 = .ok (.invokevirtual 206, 3) := by decide +kernel
theorem dX12_readsCondition_18 : decode cX12_readsCondition 18 = .ok (.ireturn, 1) := by decide +kernel
theorem dX12_readsCondition_19 : decode cX12_readsCondition 19 = .ok (.aload_n 0, 1) := by decide +kernel
theorem dX12_readsCondition_20 : decode cX12_readsCondition 20 = .ok (.iconst 0, 1) := by decide +kernel
theorem dX12_readsCondition_21 : decode cX12_readsCondition 21 = .ok (.putfield 221, 3) := by decide +kernel
theorem dX12_readsCondition_24 : decode cX12_readsCondition 24 = .ok (.aload_n 0, 1) := by decide +kernel
theorem dX12_readsCondition_25 : decode cX12_readsCondition 25 = .ok (.iconst 0, 1) := by decide +kernel
theorem dX12_readsCondition_26 : decode cX12_readsCondition 26 = .ok (.putfield 224, 3) := by decide +kernel
theorem dX12_readsCondition_29 : decode cX12_readsCondition 29 = .ok (.aload_n 0, 1) := by decide +kernel
theorem dX12_readsCondition_30 : decode cX12_readsCondition 30 = .ok (.bipush 13, 2) := by decide +kernel
theorem dX12_readsCondition_32 : decode cX12_readsCondition 32 = .ok (.invokevirtual 234, 3) := by decide +kernel
theorem dX12_readsCondition_35 : decode cX12_readsCondition 35 = .ok (.ifCond .ne 5, 3) := by decide +kernel
theorem dX12_readsCondition_38 : decode cX12_readsCondition 38 = .ok (.iconst 0, 1) := by decide +kernel
theorem dX12_readsCondition_39 : decode cX12_readsCondition 39 = .ok (.ireturn, 1) := by decide +kernel
theorem dX12_readsCondition_40 : decode cX12_readsCondition 40 = .ok (.aload_n 0, 1) := by decide +kernel
theorem dX12_readsCondition_41 : decode cX12_readsCondition 41 = .ok (.invokevirtual 199, 3) := by decide +kernel
theorem dX12_readsCondition_44 : decode cX12_readsCondition 44 = .ok (.bipush 33, 2) := by decide +kernel
theorem dX12_readsCondition_46 : decode cX12_readsCondition 46 = .ok (.if_icmp .eq 12, 3) := by decide +kernel
theorem dX12_readsCondition_49 : decode cX12_readsCondition 49 = .ok (.aload_n 0, 1) := by decide +kernel
theorem dX12_readsCondition_50 : decode cX12_readsCondition 50 = .ok (.invokevirtual 199, 3) := by decide +kernel
theorem dX12_readsCondition_53 : decode cX12_readsCondition 53 = .ok (.bipush 40, 2) := by decide +kernel
theorem dX12_readsCondition_55 : decode cX12_readsCondition 55 = .ok (.if_icmp .ne 28, 3) := by decide +kernel
theorem dX12_readsCondition_58 : decode cX12_readsCondition 58 = .ok (.aload_n 0, 1) := by decide +kernel
theorem dX12_readsCondition_59 : decode cX12_readsCondition 59 = .ok (.aload_n 0, 1) := by decide +kernel
theorem dX12_readsCondition_60 : decode cX12_readsCondition 60 = .ok (.invokevirtual 199, 3) := by decide +kernel
theorem dX12_readsCondition_63 : decode cX12_readsCondition 63 = .ok (.bipush 33, 2) := by decide +kernel
theorem dX12_readsCondition_65 : decode cX12_readsCondition 65 = .ok (.if_icmp .ne 8, 3) := by decide +kernel
theorem dX12_readsCondition_68 : decode cX12_readsCondition 68 = .ok (.bipush 10, 2) := by decide +kernel
theorem dX12_readsCondition_70 : decode cX12_readsCondition 70 = .ok (.goto 5, 3) := by decide +kernel
theorem dX12_readsCondition_73 : decode cX12_readsCondition 73 = .ok (.bipush 13, 2) := by decide +kernel
theorem dX12_readsCondition_75 : decode cX12_readsCondition 75 = .ok (.invokevirtual 234, 3) := by decide +kernel
theorem dX12_readsCondition_78 : decode cX12_readsCondition 78 = .ok (.ifCond .ne (-38), 3) := by decide +kernel
theorem dX12_readsCondition_81 : decode cX12_readsCondition 81 = .ok (.iconst 0, 1) := by decide +kernel
theorem dX12_readsCondition_82 : decode cX12_readsCondition 82 = .ok (.ireturn, 1) := by decide +kernel
theorem dX12_readsCondition_83 : decode cX12_readsCondition 83 = .ok (.aload_n 0, 1) := by decide +kernel
theorem dX12_readsCondition_84 : decode cX12_readsCondition 84 = .ok (.invokevirtual 262, 3) := by decide +kernel
theorem dX12_readsCondition_87 : decode cX12_readsCondition 87 = .ok (.ifCond .ne 5, 3) := by decide +kernel
theorem dX12_readsCondition_90 : decode cX12_readsCondition 90 = .ok (.iconst 0, 1) := by decide +kernel
theorem dX12_readsCondition_91 : decode cX12_readsCondition 91 = .ok (.ireturn, 1) := by decide +kernel
theorem dX12_readsCondition_92 : decode cX12_readsCondition 92 = .ok (.aload_n 0, 1) := by decide +kernel
theorem dX12_readsCondition_93 : decode cX12_readsCondition 93 = .ok (.invokevirtual 199, 3) := by decide +kernel
theorem dX12_readsCondition_96 : decode cX12_readsCondition 96 = .ok (.bipush 41, 2) := by decide +kernel
theorem dX12_readsCondition_98 : decode cX12_readsCondition 98 = .ok (.if_icmp .ne 54, 3) := by decide +kernel
theorem dX12_readsCondition_101 : decode cX12_readsCondition 101 = .ok (.aload_n 0, 1) := by decide +kernel
theorem dX12_readsCondition_102 : decode cX12_readsCondition 102 = .ok (.iconst 1, 1) := by decide +kernel
theorem dX12_readsCondition_103 : decode cX12_readsCondition 103 = .ok (.invokevirtual 265, 3) := by decide +kernel
theorem dX12_readsCondition_106 : decode cX12_readsCondition 106 = .ok (.aload_n 0, 1) := by decide +kernel
theorem dX12_readsCondition_107 : decode cX12_readsCondition 107 = .ok (.aload_n 0, 1) := by decide +kernel
theorem dX12_readsCondition_108 : decode cX12_readsCondition 108 = .ok (.getfield 224, 3) := by decide +kernel
theorem dX12_readsCondition_111 : decode cX12_readsCondition 111 = .ok (.iconst 1, 1) := by decide +kernel
theorem dX12_readsCondition_112 : decode cX12_readsCondition 112 = .ok (.isub, 1) := by decide +kernel
theorem dX12_readsCondition_113 : decode cX12_readsCondition 113 = .ok (.putfield 224, 3) := by decide +kernel
theorem dX12_readsCondition_116 : decode cX12_readsCondition 116 = .ok (.aload_n 0, 1) := by decide +kernel
theorem dX12_readsCondition_117 : decode cX12_readsCondition 117 = .ok (.aload_n 0, 1) := by decide +kernel
theorem dX12_readsCondition_118 : decode cX12_readsCondition 118 = .ok (.getfield 221, 3) := by decide +kernel
theorem dX12_readsCondition_121 : decode cX12_readsCondition 121 = .ok (.iconst 1, 1) := by decide +kernel
theorem dX12_readsCondition_122 : decode cX12_readsCondition 122 = .ok (.isub, 1) := by decide +kernel
theorem dX12_readsCondition_123 : decode cX12_readsCondition 123 = .ok (.putfield 221, 3) := by decide +kernel
theorem dX12_readsCondition_126 : decode cX12_readsCondition 126 = .ok (.aload_n 0, 1) := by decide +kernel
theorem dX12_readsCondition_127 : decode cX12_readsCondition 127 = .ok (.aload_n 0, 1) := by decide +kernel
theorem dX12_readsCondition_128 : decode cX12_readsCondition 128 = .ok (.getfield 193, 3) := by decide +kernel
theorem dX12_readsCondition_131 : decode cX12_readsCondition 131 = .ok (.iconst 1, 1) := by decide +kernel
theorem dX12_readsCondition_132 : decode cX12_readsCondition 132 = .ok (.iadd, 1) := by decide +kernel
theorem dX12_readsCondition_133 : decode cX12_readsCondition 133 = .ok (.putfield 193, 3) := by decide +kernel
theorem dX12_readsCondition_136 : decode cX12_readsCondition 136 = .ok (.aload_n 0, 1) := by decide +kernel
theorem dX12_readsCondition_137 : decode cX12_readsCondition 137 = .ok (.getfield 224, 3) := by decide +kernel
theorem dX12_readsCondition_140 : decode cX12_readsCondition 140 = .ok (.ifCond .ne 5, 3) := by decide +kernel
theorem dX12_readsCondition_143 : decode cX12_readsCondition 143 = .ok (.iconst 1, 1) := by decide +kernel
theorem dX12_readsCondition_144 : decode cX12_readsCondition 144 = .ok (.ireturn, 1) := by decide +kernel
theorem dX12_readsCondition_145 : decode cX12_readsCondition 145 = .ok (.aload_n 0, 1) := by decide +kernel
theorem dX12_readsCondition_146 : decode cX12_readsCondition 146 = .ok (.invokevirtual 259, 3) := by decide +kernel
theorem dX12_readsCondition_149 : decode cX12_readsCondition 149 = .ok (.goto (-57), 3) := by decide +kernel
theorem dX12_readsCondition_152 : decode cX12_readsCondition 152 = .ok (.aload_n 0, 1) := by decide +kernel
theorem dX12_readsCondition_153 : decode cX12_readsCondition 153 = .ok (.invokevirtual 199, 3) := by decide +kernel
theorem dX12_readsCondition_156 : decode cX12_readsCondition 156 = .ok (.bipush 38, 2) := by decide +kernel
theorem dX12_readsCondition_158 : decode cX12_readsCondition 158 = .ok (.if_icmp .eq 22, 3) := by decide +kernel
theorem dX12_readsCondition_161 : decode cX12_readsCondition 161 = .ok (.aload_n 0, 1) := by decide +kernel
theorem dX12_readsCondition_162 : decode cX12_readsCondition 162 = .ok (.invokevirtual 199, 3) := by decide +kernel
theorem dX12_readsCondition_165 : decode cX12_readsCondition 165 = .ok (.bipush 124, 2) := by decide +kernel
theorem dX12_readsCondition_167 : decode cX12_readsCondition 167 = .ok (.if_icmp .eq 13, 3) := by decide +kernel
theorem dX12_readsCondition_170 : decode cX12_readsCondition 170 = .ok (.aload_n 0, 1) := by decide +kernel
theorem dX12_readsCondition_171 : decode cX12_readsCondition 171 = .ok (.iconst 1, 1) := by decide +kernel
theorem dX12_readsCondition_172 : decode cX12_readsCondition 172 = .ok (.aload_n 0, 1) := by decide +kernel
theorem dX12_readsCondition_173 : decode cX12_readsCondition 173 = .ok (.getfield 193, 3) := by decide +kernel
theorem dX12_readsCondition_176 : decode cX12_readsCondition 176 = .ok (.invokevirtual 206, 3) := by decide +kernel
theorem dX12_readsCondition_179 : decode cX12_readsCondition 179 = .ok (.ireturn, 1) := by decide +kernel
theorem dX12_readsCondition_180 : decode cX12_readsCondition 180 = .ok (.aload_n 0, 1) := by decide +kernel
theorem dX12_readsCondition_181 : decode cX12_readsCondition 181 = .ok (.aload_n 0, 1) := by decide +kernel
theorem dX12_readsCondition_182 : decode cX12_readsCondition 182 = .ok (.invokevirtual 199, 3) := by decide +kernel
theorem dX12_readsCondition_185 : decode cX12_readsCondition 185 = .ok (.bipush 124, 2) := by decide +kernel
theorem dX12_readsCondition_187 : decode cX12_readsCondition 187 = .ok (.if_icmp .ne 7, 3) := by decide +kernel
theorem dX12_readsCondition_190 : decode cX12_readsCondition 190 = .ok (.iconst 1, 1) := by decide +kernel
theorem dX12_readsCondition_191 : decode cX12_readsCondition 191 = .ok (.goto 4, 3) := by decide +kernel
theorem dX12_readsCondition_194 : decode cX12_readsCondition 194 = .ok (.iconst 0, 1) := by decide +kernel
theorem dX12_readsCondition_195 : decode cX12_readsCondition 195 = .ok (.invokevirtual 265, 3) := by decide +kernel
theorem dX12_readsCondition_198 : decode cX12_readsCondition 198 = .ok (.aload_n 0, 1) := by decide +kernel
theorem dX12_readsCondition_199 : decode cX12_readsCondition 199 = .ok (.aload_n 0, 1) := by decide +kernel
theorem dX12_readsCondition_200 : decode cX12_readsCondition 200 = .ok (.invokevirtual 199, 3) := by decide +kernel
theorem dX12_readsCondition_203 : decode cX12_readsCondition 203 = .ok (.bipush 38, 2) := by decide +kernel
theorem dX12_readsCondition_205 : decode cX12_readsCondition 205 = .ok (.if_icmp .ne 8, 3) := by decide +kernel
theorem dX12_readsCondition_208 : decode cX12_readsCondition 208 = .ok (.bipush 11, 2) := by decide +kernel
theorem dX12_readsCondition_210 : decode cX12_readsCondition 210 = .ok (.goto 5, 3) := by decide +kernel
theorem dX12_readsCondition_213 : decode cX12_readsCondition 213 = .ok (.bipush 12, 2) := by decide +kernel
theorem dX12_readsCondition_215 : decode cX12_readsCondition 215 = .ok (.invokevirtual 268, 3) := by decide +kernel
theorem dX12_readsCondition_218 : decode cX12_readsCondition 218 = .ok (.goto (-178), 3) := by decide +kernel
theorem dX12_readsClause_0 : decode cX12_readsClause 0 = .ok (.aload_n 0, 1) := by decide +kernel
theorem dX12_readsClause_1 : decode cX12_readsClause 1 = .ok (.invokevirtual 199, 3) := by decide +kernel
theorem dX12_readsClause_4 : decode cX12_readsClause 4 = .ok (.istore_n 1, 1) := by decide +kernel
theorem dX12_readsClause_5 : decode cX12_readsClause 5 = .ok (.iload_n 1, 1) := by decide +kernel
theorem dX12_readsClause_6 : decode cX12_readsClause 6 = .ok (.bipush 112, 2) := by decide +kernel
theorem dX12_readsClause_8 : decode cX12_readsClause 8 = .ok (.if_icmp .eq 31, 3) := by decide +kernel
theorem dX12_readsClause_11 : decode cX12_readsClause 11 = .ok (.iload_n 1, 1) := by decide +kernel
theorem dX12_readsClause_12 : decode cX12_readsClause 12 = .ok (.bipush 119, 2) := by decide +kernel
theorem dX12_readsClause_14 : decode cX12_readsClause 14 = .ok (.if_icmp .eq 25, 3) := by decide +kernel
theorem dX12_readsClause_17 : decode cX12_readsClause 17 = .ok (.iload_n 1, 1) := by decide +kernel
theorem dX12_readsClause_18 : decode cX12_readsClause 18 = .ok (.bipush 104, 2) := by decide +kernel
theorem dX12_readsClause_20 : decode cX12_readsClause 20 = .ok (.if_icmp .eq 19, 3) := by decide +kernel
theorem dX12_readsClause_23 : decode cX12_readsClause 23 = .ok (.iload_n 1, 1) := by decide +kernel
theorem dX12_readsClause_24 : decode cX12_readsClause 24 = .ok (.bipush 118, 2) := by decide +kernel
theorem dX12_readsClause_26 : decode cX12_readsClause 26 = .ok (.if_icmp .eq 13, 3) := by decide +kernel
theorem dX12_readsClause_29 : decode cX12_readsClause 29 = .ok (.aload_n 0, 1) := by decide +kernel
theorem dX12_readsClause_30 : decode cX12_readsClause 30 = .ok (.iconst 1, 1) := by decide +kernel
theorem dX12_readsClause_31 : decode cX12_readsClause 31 = .ok (.aload_n 0, 1) := by decide +kernel
theorem dX12_readsClause_32 : decode cX12_readsClause 32 = .ok (.getfield 193, 3) := by decide +kernel
theorem dX12_readsClause_35 : decode cX12_readsClause 35 = .ok (.invokevirtual 206, 3) := by decide +kernel
theorem dX12_readsClause_38 : decode cX12_readsClause 38 = .ok (.ireturn, 1) := by decide +kernel
theorem dX12_readsClause_39 : decode cX12_readsClause 39 = .ok (.aload_n 0, 1) := by decide +kernel
theorem dX12_readsClause_40 : decode cX12_readsClause 40 = .ok (.getfield 271, 3) := by decide +kernel
theorem dX12_readsClause_43 : decode cX12_readsClause 43 = .ok (.bipush 14, 2) := by decide +kernel
theorem dX12_readsClause_45 : decode cX12_readsClause 45 = .ok (.if_icmp .ne 13, 3) := by decide +kernel
theorem dX12_readsClause_48 : decode cX12_readsClause 48 = .ok (.aload_n 0, 1) := by decide +kernel
theorem dX12_readsClause_49 : decode cX12_readsClause 49 = .ok (.iconst 4, 1) := by decide +kernel
theorem dX12_readsClause_50 : decode cX12_readsClause 50 = .ok (.aload_n 0, 1) := by decide +kernel
theorem dX12_readsClause_51 : decode cX12_readsClause 51 = .ok (.getfield 193, 3) := by decide +kernel
theorem dX12_readsClause_54 : decode cX12_readsClause 54 = .ok (.invokevirtual 206, 3) := by decide +kernel
theorem dX12_readsClause_57 : decode cX12_readsClause 57 = .ok (.ireturn, 1) := by decide +kernel
theorem dX12_readsClause_58 : decode cX12_readsClause 58 = .ok (.aload_n 0, 1) := by decide +kernel
theorem dX12_readsClause_59 : decode cX12_readsClause 59 = .ok (.getfield 32, 3) := by decide +kernel
theorem dX12_readsClause_62 : decode cX12_readsClause 62 = .ok (.aload_n 0, 1) := by decide +kernel
theorem dX12_readsClause_63 : decode cX12_readsClause 63 = .ok (.getfield 271, 3) := by decide +kernel
theorem dX12_readsClause_66 : decode cX12_readsClause 66 = .ok (.iload_n 1, 1) := by decide +kernel
theorem dX12_readsClause_67 : decode cX12_readsClause 67 = .ok (.iastore, 1) := by decide +kernel
theorem dX12_readsClause_68 : decode cX12_readsClause 68 = .ok (.aload_n 0, 1) := by decide +kernel
theorem dX12_readsClause_69 : decode cX12_readsClause 69 = .ok (.aload_n 0, 1) := by decide +kernel
theorem dX12_readsClause_70 : decode cX12_readsClause 70 = .ok (.getfield 193, 3) := by decide +kernel
theorem dX12_readsClause_73 : decode cX12_readsClause 73 = .ok (.iconst 1, 1) := by decide +kernel
theorem dX12_readsClause_74 : decode cX12_readsClause 74 = .ok (.iadd, 1) := by decide +kernel
theorem dX12_readsClause_75 : decode cX12_readsClause 75 = .ok (.putfield 193, 3) := by decide +kernel
theorem dX12_readsClause_78 : decode cX12_readsClause 78 = .ok (.aload_n 0, 1) := by decide +kernel
theorem dX12_readsClause_79 : decode cX12_readsClause 79 = .ok (.getfield 35, 3) := by decide +kernel
theorem dX12_readsClause_82 : decode cX12_readsClause 82 = .ok (.aload_n 0, 1) := by decide +kernel
theorem dX12_readsClause_83 : decode cX12_readsClause 83 = .ok (.getfield 271, 3) := by decide +kernel
theorem dX12_readsClause_86 : decode cX12_readsClause 86 = .ok (.aload_n 0, 1) := by decide +kernel
theorem dX12_readsClause_87 : decode cX12_readsClause 87 = .ok (.getfield 217, 3) := by decide +kernel
theorem dX12_readsClause_90 : decode cX12_readsClause 90 = .ok (.iastore, 1) := by decide +kernel
theorem dX12_readsClause_91 : decode cX12_readsClause 91 = .ok (.aload_n 0, 1) := by decide +kernel
theorem dX12_readsClause_92 : decode cX12_readsClause 92 = .ok (.iconst 0, 1) := by decide +kernel
theorem dX12_readsClause_93 : decode cX12_readsClause 93 = .ok (.putfield 221, 3) := by decide +kernel
theorem dX12_readsClause_96 : decode cX12_readsClause 96 = .ok (.aload_n 0, 1) := by decide +kernel
theorem dX12_readsClause_97 : decode cX12_readsClause 97 = .ok (.iconst 0, 1) := by decide +kernel
theorem dX12_readsClause_98 : decode cX12_readsClause 98 = .ok (.putfield 224, 3) := by decide +kernel
theorem dX12_readsClause_101 : decode cX12_readsClause 101 = .ok (.iload_n 1, 1) := by decide +kernel
theorem dX12_readsClause_102 : decode cX12_readsClause 102 = .ok (.bipush 112, 2) := by decide +kernel
theorem dX12_readsClause_104 : decode cX12_readsClause 104 = .ok (.if_icmp .eq 12, 3) := by decide +kernel
theorem dX12_readsClause_107 : decode cX12_readsClause 107 = .ok (.aload_n 0, 1) := by decide +kernel
theorem dX12_readsClause_108 : decode cX12_readsClause 108 = .ok (.invokevirtual 256, 3) := by decide +kernel
theorem dX12_readsClause_111 : decode cX12_readsClause 111 = .ok (.ifCond .ne 5, 3) := by decide +kernel
theorem dX12_readsClause_114 : decode cX12_readsClause 114 = .ok (.iconst 0, 1) := by decide +kernel
theorem dX12_readsClause_115 : decode cX12_readsClause 115 = .ok (.ireturn, 1) := by decide +kernel
theorem dX12_readsClause_116 : decode cX12_readsClause 116 = .ok (.aload_n 0, 1) := by decide +kernel
theorem dX12_readsClause_117 : decode cX12_readsClause 117 = .ok (.getfield 38, 3) := by decide +kernel
theorem dX12_readsClause_120 : decode cX12_readsClause 120 = .ok (.aload_n 0, 1) := by decide +kernel
theorem dX12_readsClause_121 : decode cX12_readsClause 121 = .ok (.getfield 271, 3) := by decide +kernel
theorem dX12_readsClause_124 : decode cX12_readsClause 124 = .ok (.aload_n 0, 1) := by decide +kernel
theorem dX12_readsClause_125 : decode cX12_readsClause 125 = .ok (.getfield 217, 3) := by decide +kernel
theorem dX12_readsClause_128 : decode cX12_readsClause 128 = .ok (.iastore, 1) := by decide +kernel
theorem dX12_readsClause_129 : decode cX12_readsClause 129 = .ok (.aload_n 0, 1) := by decide +kernel
theorem dX12_readsClause_130 : decode cX12_readsClause 130 = .ok (.invokevirtual 274, 3) := by decide +kernel
theorem dX12_readsClause_133 : decode cX12_readsClause 133 = .ok (.ifCond .ne 5, 3) := by decide +kernel
theorem dX12_readsClause_136 : decode cX12_readsClause 136 = .ok (.iconst 0, 1) := by decide +kernel
theorem dX12_readsClause_137 : decode cX12_readsClause 137 = .ok (.ireturn, 1) := by decide +kernel
theorem dX12_readsClause_138 : decode cX12_readsClause 138 = .ok (.aload_n 0, 1) := by decide +kernel
theorem dX12_readsClause_139 : decode cX12_readsClause 139 = .ok (.getfield 41, 3) := by decide +kernel
theorem dX12_readsClause_142 : decode cX12_readsClause 142 = .ok (.aload_n 0, 1) := by decide +kernel
theorem dX12_readsClause_143 : decode cX12_readsClause 143 = .ok (.getfield 271, 3) := by decide +kernel
theorem dX12_readsClause_146 : decode cX12_readsClause 146 = .ok (.aload_n 0, 1) := by decide +kernel
theorem dX12_readsClause_147 : decode cX12_readsClause 147 = .ok (.getfield 217, 3) := by decide +kernel
theorem dX12_readsClause_150 : decode cX12_readsClause 150 = .ok (.iastore, 1) := by decide +kernel
theorem dX12_readsClause_151 : decode cX12_readsClause 151 = .ok (.aload_n 0, 1) := by decide +kernel
theorem dX12_readsClause_152 : decode cX12_readsClause 152 = .ok (.aload_n 0, 1) := by decide +kernel
theorem dX12_readsClause_153 : decode cX12_readsClause 153 = .ok (.getfield 271, 3) := by decide +kernel
theorem dX12_readsClause_156 : decode cX12_readsClause 156 = .ok (.iconst 1, 1) := by decide +kernel
theorem dX12_readsClause_157 : decode cX12_readsClause 157 = .ok (.iadd, 1) := by decide +kernel
theorem dX12_readsClause_158 : decode cX12_readsClause 158 = .ok (.putfield 271, 3) := by decide +kernel
theorem dX12_readsClause_161 : decode cX12_readsClause 161 = .ok (.iconst 1, 1) := by decide +kernel
theorem dX12_readsClause_162 : decode cX12_readsClause 162 = .ok (.ireturn, 1) := by decide +kernel
theorem dX12_law_0 : decode cX12_law 0 = .ok (.iload_n 1, 1) := by decide +kernel
theorem dX12_law_1 : decode cX12_law 1 = .ok (.iconst 1, 1) := by decide +kernel
theorem dX12_law_2 : decode cX12_law 2 = .ok (.sipush 200, 3) := by decide +kernel
theorem dX12_law_5 : decode cX12_law 5 = .ok (.invokestatic 171, 3) := by decide +kernel
theorem dX12_law_8 : decode cX12_law 8 = .ok (.ifCond .eq 11, 3) := by decide +kernel
theorem dX12_law_11 : decode cX12_law 11 = .ok (.iload_n 1, 1) := by decide +kernel
theorem dX12_law_12 : decode cX12_law 12 = .ok (.aload_n 0, 1) := by decide +kernel
theorem dX12_law_13 : decode cX12_law 13 = .ok (.getfield 186, 3) := by decide +kernel
theorem dX12_law_16 : decode cX12_law 16 = .ok (.if_icmp .le 5, 3) := by decide +kernel
theorem dX12_law_19 : decode cX12_law 19 = .ok (.iconst (-1), 1) := by decide +kernel
theorem dX12_law_20 : decode cX12_law 20 = .ok (.ireturn, 1) := by decide +kernel
theorem dX12_law_21 : decode cX12_law 21 = .ok (.aload_n 0, 1) := by decide +kernel
theorem dX12_law_22 : decode cX12_law 22 = .ok (.iconst 0, 1) := by decide +kernel
theorem dX12_law_23 : decode cX12_law 23 = .ok (.putfield 193, 3) := by decide +kernel
theorem dX12_law_26 : decode cX12_law 26 = .ok (.aload_n 0, 1) := by decide +kernel
theorem dX12_law_27 : decode cX12_law 27 = .ok (.iload_n 1, 1) := by decide +kernel
theorem dX12_law_28 : decode cX12_law 28 = .ok (.putfield 196, 3) := by decide +kernel
theorem dX12_law_31 : decode cX12_law 31 = .ok (.aload_n 0, 1) := by decide +kernel
theorem dX12_law_32 : decode cX12_law 32 = .ok (.iconst 0, 1) := by decide +kernel
theorem dX12_law_33 : decode cX12_law 33 = .ok (.putfield 217, 3) := by decide +kernel
theorem dX12_law_36 : decode cX12_law 36 = .ok (.aload_n 0, 1) := by decide +kernel
theorem dX12_law_37 : decode cX12_law 37 = .ok (.iconst 0, 1) := by decide +kernel
theorem dX12_law_38 : decode cX12_law 38 = .ok (.putfield 271, 3) := by decide +kernel
theorem dX12_law_41 : decode cX12_law 41 = .ok (.aload_n 0, 1) := by decide +kernel
theorem dX12_law_42 : decode cX12_law 42 = .ok (.invokevirtual 277, 3) := by decide +kernel
theorem dX12_law_45 : decode cX12_law 45 = .ok (.istore_n 2, 1) := by decide +kernel
theorem dX12_law_46 : decode cX12_law 46 = .ok (.iload_n 2, 1) := by decide +kernel
theorem dX12_law_47 : decode cX12_law 47 = .ok (.ifCond .eq 39, 3) := by decide +kernel
theorem dX12_law_50 : decode cX12_law 50 = .ok (.aload_n 0, 1) := by decide +kernel
theorem dX12_law_51 : decode cX12_law 51 = .ok (.getfield 193, 3) := by decide +kernel
theorem dX12_law_54 : decode cX12_law 54 = .ok (.aload_n 0, 1) := by decide +kernel
theorem dX12_law_55 : decode cX12_law 55 = .ok (.getfield 196, 3) := by decide +kernel
theorem dX12_law_58 : decode cX12_law 58 = .ok (.if_icmp .ge 28, 3) := by decide +kernel
theorem dX12_law_61 : decode cX12_law 61 = .ok (.aload_n 0, 1) := by decide +kernel
theorem dX12_law_62 : decode cX12_law 62 = .ok (.bipush 59, 2) := by decide +kernel
theorem dX12_law_64 : decode cX12_law 64 = .ok (.invokevirtual 280, 3) := by decide +kernel
theorem dX12_law_67 : decode cX12_law 67 = .ok (.ifCond .eq 14, 3) := by decide +kernel
theorem dX12_law_70 : decode cX12_law 70 = .ok (.aload_n 0, 1) := by decide +kernel
theorem dX12_law_71 : decode cX12_law 71 = .ok (.invokevirtual 277, 3) := by decide +kernel
theorem dX12_law_74 : decode cX12_law 74 = .ok (.ifCond .eq 7, 3) := by decide +kernel
theorem dX12_law_77 : decode cX12_law 77 = .ok (.iconst 1, 1) := by decide +kernel
theorem dX12_law_78 : decode cX12_law 78 = .ok (.goto 4, 3) := by decide +kernel
theorem dX12_law_81 : decode cX12_law 81 = .ok (.iconst 0, 1) := by decide +kernel
theorem dX12_law_82 : decode cX12_law 82 = .ok (.istore_n 2, 1) := by decide +kernel
theorem dX12_law_83 : decode cX12_law 83 = .ok (.goto (-37), 3) := by decide +kernel
theorem dX12_law_86 : decode cX12_law 86 = .ok (.aload_n 0, 1) := by decide +kernel
theorem dX12_law_87 : decode cX12_law 87 = .ok (.iconst 0, 1) := by decide +kernel
theorem dX12_law_88 : decode cX12_law 88 = .ok (.putfield 186, 3) := by decide +kernel
theorem dX12_law_91 : decode cX12_law 91 = .ok (.iload_n 2, 1) := by decide +kernel
theorem dX12_law_92 : decode cX12_law 92 = .ok (.ifCond .ne 8, 3) := by decide +kernel
theorem dX12_law_95 : decode cX12_law 95 = .ok (.aload_n 0, 1) := by decide +kernel
theorem dX12_law_96 : decode cX12_law 96 = .ok (.getfield 203, 3) := by decide +kernel
theorem dX12_law_99 : decode cX12_law 99 = .ok (.ireturn, 1) := by decide +kernel
theorem dX12_law_100 : decode cX12_law 100 = .ok (.aload_n 0, 1) := by decide +kernel
theorem dX12_law_101 : decode cX12_law 101 = .ok (.aload_n 0, 1) := by decide +kernel
theorem dX12_law_102 : decode cX12_law 102 = .ok (.getfield 271, 3) := by decide +kernel
theorem dX12_law_105 : decode cX12_law 105 = .ok (.putfield 283, 3) := by decide +kernel
theorem dX12_law_108 : decode cX12_law 108 = .ok (.iconst 0, 1) := by decide +kernel
theorem dX12_law_109 : decode cX12_law 109 = .ok (.istore_n 3, 1) := by decide +kernel
theorem dX12_law_110 : decode cX12_law 110 = .ok (.iload_n 3, 1) := by decide +kernel
theorem dX12_law_111 : decode cX12_law 111 = .ok (.aload_n 0, 1) := by decide +kernel
theorem dX12_law_112 : decode cX12_law 112 = .ok (.getfield 217, 3) := by decide +kernel
theorem dX12_law_115 : decode cX12_law 115 = .ok (.if_icmp .ge 21, 3) := by decide +kernel
theorem dX12_law_118 : decode cX12_law 118 = .ok (.aload_n 0, 1) := by decide +kernel
theorem dX12_law_119 : decode cX12_law 119 = .ok (.getfield 44, 3) := by decide +kernel
theorem dX12_law_122 : decode cX12_law 122 = .ok (.iload_n 3, 1) := by decide +kernel
theorem dX12_law_123 : decode cX12_law 123 = .ok (.aload_n 0, 1) := by decide +kernel
theorem dX12_law_124 : decode cX12_law 124 = .ok (.getfield 26, 3) := by decide +kernel
theorem dX12_law_127 : decode cX12_law 127 = .ok (.iload_n 3, 1) := by decide +kernel
theorem dX12_law_128 : decode cX12_law 128 = .ok (.iaload, 1) := by decide +kernel
theorem dX12_law_129 : decode cX12_law 129 = .ok (.iastore, 1) := by decide +kernel
theorem dX12_law_130 : decode cX12_law 130 = .ok (.iinc 3 1, 3) := by decide +kernel
theorem dX12_law_133 : decode cX12_law 133 = .ok (.goto (-23), 3) := by decide +kernel
theorem dX12_law_136 : decode cX12_law 136 = .ok (.iconst 0, 1) := by decide +kernel
theorem dX12_law_137 : decode cX12_law 137 = .ok (.istore_n 3, 1) := by decide +kernel
theorem dX12_law_138 : decode cX12_law 138 = .ok (.iload_n 3, 1) := by decide +kernel
theorem dX12_law_139 : decode cX12_law 139 = .ok (.aload_n 0, 1) := by decide +kernel
theorem dX12_law_140 : decode cX12_law 140 = .ok (.getfield 271, 3) := by decide +kernel
theorem dX12_law_143 : decode cX12_law 143 = .ok (.if_icmp .ge 57, 3) := by decide +kernel
theorem dX12_law_146 : decode cX12_law 146 = .ok (.aload_n 0, 1) := by decide +kernel
theorem dX12_law_147 : decode cX12_law 147 = .ok (.getfield 47, 3) := by decide +kernel
theorem dX12_law_150 : decode cX12_law 150 = .ok (.iload_n 3, 1) := by decide +kernel
theorem dX12_law_151 : decode cX12_law 151 = .ok (.aload_n 0, 1) := by decide +kernel
theorem dX12_law_152 : decode cX12_law 152 = .ok (.getfield 32, 3) := by decide +kernel
theorem dX12_law_155 : decode cX12_law 155 = .ok (.iload_n 3, 1) := by decide +kernel
theorem dX12_law_156 : decode cX12_law 156 = .ok (.iaload, 1) := by decide +kernel
theorem dX12_law_157 : decode cX12_law 157 = .ok (.iastore, 1) := by decide +kernel
theorem dX12_law_158 : decode cX12_law 158 = .ok (.aload_n 0, 1) := by decide +kernel
theorem dX12_law_159 : decode cX12_law 159 = .ok (.getfield 50, 3) := by decide +kernel
theorem dX12_law_162 : decode cX12_law 162 = .ok (.iload_n 3, 1) := by decide +kernel
theorem dX12_law_163 : decode cX12_law 163 = .ok (.aload_n 0, 1) := by decide +kernel
theorem dX12_law_164 : decode cX12_law 164 = .ok (.getfield 35, 3) := by decide +kernel
theorem dX12_law_167 : decode cX12_law 167 = .ok (.iload_n 3, 1) := by decide +kernel
theorem dX12_law_168 : decode cX12_law 168 = .ok (.iaload, 1) := by decide +kernel
theorem dX12_law_169 : decode cX12_law 169 = .ok (.iastore, 1) := by decide +kernel
theorem dX12_law_170 : decode cX12_law 170 = .ok (.aload_n 0, 1) := by decide +kernel
theorem dX12_law_171 : decode cX12_law 171 = .ok (.getfield 53, 3) := by decide +kernel
theorem dX12_law_174 : decode cX12_law 174 = .ok (.iload_n 3, 1) := by decide +kernel
theorem dX12_law_175 : decode cX12_law 175 = .ok (.aload_n 0, 1) := by decide +kernel
theorem dX12_law_176 : decode cX12_law 176 = .ok (.getfield 38, 3) := by decide +kernel
theorem dX12_law_179 : decode cX12_law 179 = .ok (.iload_n 3, 1) := by decide +kernel
theorem dX12_law_180 : decode cX12_law 180 = .ok (.iaload, 1) := by decide +kernel
theorem dX12_law_181 : decode cX12_law 181 = .ok (.iastore, 1) := by decide +kernel
theorem dX12_law_182 : decode cX12_law 182 = .ok (.aload_n 0, 1) := by decide +kernel
theorem dX12_law_183 : decode cX12_law 183 = .ok (.getfield 56, 3) := by decide +kernel
theorem dX12_law_186 : decode cX12_law 186 = .ok (.iload_n 3, 1) := by decide +kernel
theorem dX12_law_187 : decode cX12_law 187 = .ok (.aload_n 0, 1) := by decide +kernel
theorem dX12_law_188 : decode cX12_law 188 = .ok (.getfield 41, 3) := by decide +kernel
theorem dX12_law_191 : decode cX12_law 191 = .ok (.iload_n 3, 1) := by decide +kernel
theorem dX12_law_192 : decode cX12_law 192 = .ok (.iaload, 1) := by decide +kernel
theorem dX12_law_193 : decode cX12_law 193 = .ok (.iastore, 1) := by decide +kernel
theorem dX12_law_194 : decode cX12_law 194 = .ok (.iinc 3 1, 3) := by decide +kernel
theorem dX12_law_197 : decode cX12_law 197 = .ok (.goto (-59), 3) := by decide +kernel
theorem dX12_law_200 : decode cX12_law 200 = .ok (.aload_n 0, 1) := by decide +kernel
theorem dX12_law_201 : decode cX12_law 201 = .ok (.getfield 271, 3) := by decide +kernel
theorem dX12_law_204 : decode cX12_law 204 = .ok (.ireturn, 1) := by decide +kernel
theorem dX12_reckon_0 : decode cX12_reckon 0 = .ok (.iload_n 0, 1) := by decide +kernel
theorem dX12_reckon_1 : decode cX12_reckon 1 = .ok (.tableswitch 85 2 8 #[43, 47, 51, 55, 59, 63, 74], 43) := by decide +kernel
theorem dX12_reckon_44 : decode cX12_reckon 44 = .ok (.iload_n 1, 1) := by decide +kernel
theorem dX12_reckon_45 : decode cX12_reckon 45 = .ok (.iload_n 2, 1) := by decide +kernel
theorem dX12_reckon_46 : decode cX12_reckon 46 = .ok (.iadd, 1) := by decide +kernel
theorem dX12_reckon_47 : decode cX12_reckon 47 = .ok (.ireturn, 1) := by decide +kernel
theorem dX12_reckon_48 : decode cX12_reckon 48 = .ok (.iload_n 1, 1) := by decide +kernel
theorem dX12_reckon_49 : decode cX12_reckon 49 = .ok (.iload_n 2, 1) := by decide +kernel
theorem dX12_reckon_50 : decode cX12_reckon 50 = .ok (.isub, 1) := by decide +kernel
theorem dX12_reckon_51 : decode cX12_reckon 51 = .ok (.ireturn, 1) := by decide +kernel
theorem dX12_reckon_52 : decode cX12_reckon 52 = .ok (.iload_n 1, 1) := by decide +kernel
theorem dX12_reckon_53 : decode cX12_reckon 53 = .ok (.iload_n 2, 1) := by decide +kernel
theorem dX12_reckon_54 : decode cX12_reckon 54 = .ok (.imul, 1) := by decide +kernel
theorem dX12_reckon_55 : decode cX12_reckon 55 = .ok (.ireturn, 1) := by decide +kernel
theorem dX12_reckon_56 : decode cX12_reckon 56 = .ok (.iload_n 1, 1) := by decide +kernel
theorem dX12_reckon_57 : decode cX12_reckon 57 = .ok (.iload_n 2, 1) := by decide +kernel
theorem dX12_reckon_58 : decode cX12_reckon 58 = .ok (.idiv, 1) := by decide +kernel
theorem dX12_reckon_59 : decode cX12_reckon 59 = .ok (.ireturn, 1) := by decide +kernel
theorem dX12_reckon_60 : decode cX12_reckon 60 = .ok (.iload_n 1, 1) := by decide +kernel
theorem dX12_reckon_61 : decode cX12_reckon 61 = .ok (.iload_n 2, 1) := by decide +kernel
theorem dX12_reckon_62 : decode cX12_reckon 62 = .ok (.irem, 1) := by decide +kernel
theorem dX12_reckon_63 : decode cX12_reckon 63 = .ok (.ireturn, 1) := by decide +kernel
theorem dX12_reckon_64 : decode cX12_reckon 64 = .ok (.iload_n 1, 1) := by decide +kernel
theorem dX12_reckon_65 : decode cX12_reckon 65 = .ok (.iload_n 2, 1) := by decide +kernel
theorem dX12_reckon_66 : decode cX12_reckon 66 = .ok (.if_icmp .ge 7, 3) := by decide +kernel
theorem dX12_reckon_69 : decode cX12_reckon 69 = .ok (.iconst 1, 1) := by decide +kernel
theorem dX12_reckon_70 : decode cX12_reckon 70 = .ok (.goto 4, 3) := by decide +kernel
theorem dX12_reckon_73 : decode cX12_reckon 73 = .ok (.iconst 0, 1) := by decide +kernel
theorem dX12_reckon_74 : decode cX12_reckon 74 = .ok (.ireturn, 1) := by decide +kernel
theorem dX12_reckon_75 : decode cX12_reckon 75 = .ok (.iload_n 1, 1) := by decide +kernel
theorem dX12_reckon_76 : decode cX12_reckon 76 = .ok (.iload_n 2, 1) := by decide +kernel
theorem dX12_reckon_77 : decode cX12_reckon 77 = .ok (.if_icmp .le 7, 3) := by decide +kernel
theorem dX12_reckon_80 : decode cX12_reckon 80 = .ok (.iconst 1, 1) := by decide +kernel
theorem dX12_reckon_81 : decode cX12_reckon 81 = .ok (.goto 4, 3) := by decide +kernel
theorem dX12_reckon_84 : decode cX12_reckon 84 = .ok (.iconst 0, 1) := by decide +kernel
theorem dX12_reckon_85 : decode cX12_reckon 85 = .ok (.ireturn, 1) := by decide +kernel
theorem dX12_reckon_86 : decode cX12_reckon 86 = .ok (.iload_n 1, 1) := by decide +kernel
theorem dX12_reckon_87 : decode cX12_reckon 87 = .ok (.iload_n 2, 1) := by decide +kernel
theorem dX12_reckon_88 : decode cX12_reckon 88 = .ok (.if_icmp .ne 7, 3) := by decide +kernel
theorem dX12_reckon_91 : decode cX12_reckon 91 = .ok (.iconst 1, 1) := by decide +kernel
theorem dX12_reckon_92 : decode cX12_reckon 92 = .ok (.goto 4, 3) := by decide +kernel
theorem dX12_reckon_95 : decode cX12_reckon 95 = .ok (.iconst 0, 1) := by decide +kernel
theorem dX12_reckon_96 : decode cX12_reckon 96 = .ok (.ireturn, 1) := by decide +kernel
theorem dX12_comesTo_0 : decode cX12_comesTo 0 = .ok (.iconst 0, 1) := by decide +kernel
theorem dX12_comesTo_1 : decode cX12_comesTo 1 = .ok (.istore_n 3, 1) := by decide +kernel
theorem dX12_comesTo_2 : decode cX12_comesTo 2 = .ok (.sipush 220, 3) := by decide +kernel
theorem dX12_comesTo_5 : decode cX12_comesTo 5 = .ok (.iload_n 1, 1) := by decide +kernel
theorem dX12_comesTo_6 : decode cX12_comesTo 6 = .ok (.sipush 220, 3) := by decide +kernel
theorem dX12_comesTo_9 : decode cX12_comesTo 9 = .ok (.idiv, 1) := by decide +kernel
theorem dX12_comesTo_10 : decode cX12_comesTo 10 = .ok (.imul, 1) := by decide +kernel
theorem dX12_comesTo_11 : decode cX12_comesTo 11 = .ok (.istore 4, 2) := by decide +kernel
theorem dX12_comesTo_13 : decode cX12_comesTo 13 = .ok (.iload_n 1, 1) := by decide +kernel
theorem dX12_comesTo_14 : decode cX12_comesTo 14 = .ok (.istore 5, 2) := by decide +kernel
theorem dX12_comesTo_16 : decode cX12_comesTo 16 = .ok (.iload 5, 2) := by decide +kernel
theorem dX12_comesTo_18 : decode cX12_comesTo 18 = .ok (.iload_n 2, 1) := by decide +kernel
theorem dX12_comesTo_19 : decode cX12_comesTo 19 = .ok (.if_icmp .ge 214, 3) := by decide +kernel
theorem dX12_comesTo_22 : decode cX12_comesTo 22 = .ok (.aload_n 0, 1) := by decide +kernel
theorem dX12_comesTo_23 : decode cX12_comesTo 23 = .ok (.getfield 44, 3) := by decide +kernel
theorem dX12_comesTo_26 : decode cX12_comesTo 26 = .ok (.iload 5, 2) := by decide +kernel
theorem dX12_comesTo_28 : decode cX12_comesTo 28 = .ok (.iaload, 1) := by decide +kernel
theorem dX12_comesTo_29 : decode cX12_comesTo 29 = .ok (.ldc 220, 2) := by decide +kernel
theorem dX12_comesTo_31 : decode cX12_comesTo 31 = .ok (.idiv, 1) := by decide +kernel
theorem dX12_comesTo_32 : decode cX12_comesTo 32 = .ok (.istore 6, 2) := by decide +kernel
theorem dX12_comesTo_34 : decode cX12_comesTo 34 = .ok (.aload_n 0, 1) := by decide +kernel
theorem dX12_comesTo_35 : decode cX12_comesTo 35 = .ok (.getfield 44, 3) := by decide +kernel
theorem dX12_comesTo_38 : decode cX12_comesTo 38 = .ok (.iload 5, 2) := by decide +kernel
theorem dX12_comesTo_40 : decode cX12_comesTo 40 = .ok (.iaload, 1) := by decide +kernel
theorem dX12_comesTo_41 : decode cX12_comesTo 41 = .ok (.ldc 220, 2) := by decide +kernel
theorem dX12_comesTo_43 : decode cX12_comesTo 43 = .ok (.irem, 1) := by decide +kernel
theorem dX12_comesTo_44 : decode cX12_comesTo 44 = .ok (.istore 7, 2) := by decide +kernel
theorem dX12_comesTo_46 : decode cX12_comesTo 46 = .ok (.iload 5, 2) := by decide +kernel
theorem dX12_comesTo_48 : decode cX12_comesTo 48 = .ok (.iconst 1, 1) := by decide +kernel
theorem dX12_comesTo_49 : decode cX12_comesTo 49 = .ok (.iadd, 1) := by decide +kernel
theorem dX12_comesTo_50 : decode cX12_comesTo 50 = .ok (.istore 5, 2) := by decide +kernel
theorem dX12_comesTo_52 : decode cX12_comesTo 52 = .ok (.iload 6, 2) := by decide +kernel
theorem dX12_comesTo_54 : decode cX12_comesTo 54 = .ok (.ifCond .eq 9, 3) := by decide +kernel
theorem dX12_comesTo_57 : decode cX12_comesTo 57 = .ok (.iload 6, 2) := by decide +kernel
theorem dX12_comesTo_59 : decode cX12_comesTo 59 = .ok (.iconst 1, 1) := by decide +kernel
theorem dX12_comesTo_60 : decode cX12_comesTo 60 = .ok (.if_icmp .ne 33, 3) := by decide +kernel
theorem dX12_comesTo_63 : decode cX12_comesTo 63 = .ok (.aload_n 0, 1) := by decide +kernel
theorem dX12_comesTo_64 : decode cX12_comesTo 64 = .ok (.getfield 59, 3) := by decide +kernel
theorem dX12_comesTo_67 : decode cX12_comesTo 67 = .ok (.iload_n 3, 1) := by decide +kernel
theorem dX12_comesTo_68 : decode cX12_comesTo 68 = .ok (.iload 6, 2) := by decide +kernel
theorem dX12_comesTo_70 : decode cX12_comesTo 70 = .ok (.ifCond .ne 8, 3) := by decide +kernel
theorem dX12_comesTo_73 : decode cX12_comesTo 73 = .ok (.iload 7, 2) := by decide +kernel
theorem dX12_comesTo_75 : decode cX12_comesTo 75 = .ok (.goto 10, 3) := by decide +kernel
theorem dX12_comesTo_78 : decode cX12_comesTo 78 = .ok (.aload_n 0, 1) := by decide +kernel
theorem dX12_comesTo_79 : decode cX12_comesTo 79 = .ok (.getfield 62, 3) := by decide +kernel
theorem dX12_comesTo_82 : decode cX12_comesTo 82 = .ok (.iload 7, 2) := by decide +kernel
theorem dX12_comesTo_84 : decode cX12_comesTo 84 = .ok (.iaload, 1) := by decide +kernel
theorem dX12_comesTo_85 : decode cX12_comesTo 85 = .ok (.iastore, 1) := by decide +kernel
theorem dX12_comesTo_86 : decode cX12_comesTo 86 = .ok (.iload_n 3, 1) := by decide +kernel
theorem dX12_comesTo_87 : decode cX12_comesTo 87 = .ok (.iconst 1, 1) := by decide +kernel
theorem dX12_comesTo_88 : decode cX12_comesTo 88 = .ok (.iadd, 1) := by decide +kernel
theorem dX12_comesTo_89 : decode cX12_comesTo 89 = .ok (.istore_n 3, 1) := by decide +kernel
theorem dX12_comesTo_90 : decode cX12_comesTo 90 = .ok (.goto 140, 3) := by decide +kernel
theorem dX12_comesTo_93 : decode cX12_comesTo 93 = .ok (.iload 6, 2) := by decide +kernel
theorem dX12_comesTo_95 : decode cX12_comesTo 95 = .ok (.bipush 10, 2) := by decide +kernel
theorem dX12_comesTo_97 : decode cX12_comesTo 97 = .ok (.if_icmp .ne 24, 3) := by decide +kernel
theorem dX12_comesTo_100 : decode cX12_comesTo 100 = .ok (.aload_n 0, 1) := by decide +kernel
theorem dX12_comesTo_101 : decode cX12_comesTo 101 = .ok (.getfield 59, 3) := by decide +kernel
theorem dX12_comesTo_104 : decode cX12_comesTo 104 = .ok (.iload_n 3, 1) := by decide +kernel
theorem dX12_comesTo_105 : decode cX12_comesTo 105 = .ok (.iconst 1, 1) := by decide +kernel
theorem dX12_comesTo_106 : decode cX12_comesTo 106 = .ok (.isub, 1) := by decide +kernel
theorem dX12_comesTo_107 : decode cX12_comesTo 107 = .ok (.iconst 1, 1) := by decide +kernel
theorem dX12_comesTo_108 : decode cX12_comesTo 108 = .ok (.aload_n 0, 1) := by decide +kernel
theorem dX12_comesTo_109 : decode cX12_comesTo 109 = .ok (.getfield 59, 3) := by decide +kernel
theorem dX12_comesTo_112 : decode cX12_comesTo 112 = .ok (.iload_n 3, 1) := by decide +kernel
theorem dX12_comesTo_113 : decode cX12_comesTo 113 = .ok (.iconst 1, 1) := by decide +kernel
theorem dX12_comesTo_114 : decode cX12_comesTo 114 = .ok (.isub, 1) := by decide +kernel
theorem dX12_comesTo_115 : decode cX12_comesTo 115 = .ok (.iaload, 1) := by decide +kernel
theorem dX12_comesTo_116 : decode cX12_comesTo 116 = .ok (.isub, 1) := by decide +kernel
theorem dX12_comesTo_117 : decode cX12_comesTo 117 = .ok (.iastore, 1) := by decide +kernel
theorem dX12_comesTo_118 : decode cX12_comesTo 118 = .ok (.goto 112, 3) := by decide +kernel
theorem dX12_comesTo_121 : decode cX12_comesTo 121 = .ok (.iload 6, 2) := by decide +kernel
theorem dX12_comesTo_123 : decode cX12_comesTo 123 = .ok (.bipush 11, 2) := by decide +kernel
theorem dX12_comesTo_125 : decode cX12_comesTo 125 = .ok (.if_icmp .eq 10, 3) := by decide +kernel
theorem dX12_comesTo_128 : decode cX12_comesTo 128 = .ok (.iload 6, 2) := by decide +kernel
theorem dX12_comesTo_130 : decode cX12_comesTo 130 = .ok (.bipush 12, 2) := by decide +kernel
theorem dX12_comesTo_132 : decode cX12_comesTo 132 = .ok (.if_icmp .ne 43, 3) := by decide +kernel
theorem dX12_comesTo_135 : decode cX12_comesTo 135 = .ok (.aload_n 0, 1) := by decide +kernel
theorem dX12_comesTo_136 : decode cX12_comesTo 136 = .ok (.getfield 59, 3) := by decide +kernel
theorem dX12_comesTo_139 : decode cX12_comesTo 139 = .ok (.iload_n 3, 1) := by decide +kernel
theorem dX12_comesTo_140 : decode cX12_comesTo 140 = .ok (.iconst 1, 1) := by decide +kernel
theorem dX12_comesTo_141 : decode cX12_comesTo 141 = .ok (.isub, 1) := by decide +kernel
theorem dX12_comesTo_142 : decode cX12_comesTo 142 = .ok (.iaload, 1) := by decide +kernel
theorem dX12_comesTo_143 : decode cX12_comesTo 143 = .ok (.iload 6, 2) := by decide +kernel
theorem dX12_comesTo_145 : decode cX12_comesTo 145 = .ok (.bipush 12, 2) := by decide +kernel
theorem dX12_comesTo_147 : decode cX12_comesTo 147 = .ok (.if_icmp .ne 7, 3) := by decide +kernel
theorem dX12_comesTo_150 : decode cX12_comesTo 150 = .ok (.iconst 1, 1) := by decide +kernel
theorem dX12_comesTo_151 : decode cX12_comesTo 151 = .ok (.goto 4, 3) := by decide +kernel
theorem dX12_comesTo_154 : decode cX12_comesTo 154 = .ok (.iconst 0, 1) := by decide +kernel
theorem dX12_comesTo_155 : decode cX12_comesTo 155 = .ok (.if_icmp .ne 13, 3) := by decide +kernel
theorem dX12_comesTo_158 : decode cX12_comesTo 158 = .ok (.iload 4, 2) := by decide +kernel
theorem dX12_comesTo_160 : decode cX12_comesTo 160 = .ok (.iload 7, 2) := by decide +kernel
theorem dX12_comesTo_162 : decode cX12_comesTo 162 = .ok (.iadd, 1) := by decide +kernel
theorem dX12_comesTo_163 : decode cX12_comesTo 163 = .ok (.istore 5, 2) := by decide +kernel
theorem dX12_comesTo_165 : decode cX12_comesTo 165 = .ok (.goto 65, 3) := by decide +kernel
theorem dX12_comesTo_168 : decode cX12_comesTo 168 = .ok (.iload_n 3, 1) := by decide +kernel
theorem dX12_comesTo_169 : decode cX12_comesTo 169 = .ok (.iconst 1, 1) := by decide +kernel
theorem dX12_comesTo_170 : decode cX12_comesTo 170 = .ok (.isub, 1) := by decide +kernel
theorem dX12_comesTo_171 : decode cX12_comesTo 171 = .ok (.istore_n 3, 1) := by decide +kernel
theorem dX12_comesTo_172 : decode cX12_comesTo 172 = .ok (.goto 58, 3) := by decide +kernel
theorem dX12_comesTo_175 : decode cX12_comesTo 175 = .ok (.iload_n 3, 1) := by decide +kernel
theorem dX12_comesTo_176 : decode cX12_comesTo 176 = .ok (.iconst 1, 1) := by decide +kernel
theorem dX12_comesTo_177 : decode cX12_comesTo 177 = .ok (.isub, 1) := by decide +kernel
theorem dX12_comesTo_178 : decode cX12_comesTo 178 = .ok (.istore_n 3, 1) := by decide +kernel
theorem dX12_comesTo_179 : decode cX12_comesTo 179 = .ok (.iload 6, 2) := by decide +kernel
theorem dX12_comesTo_181 : decode cX12_comesTo 181 = .ok (.iconst 5, 1) := by decide +kernel
theorem dX12_comesTo_182 : decode cX12_comesTo 182 = .ok (.if_icmp .eq 10, 3) := by decide +kernel
theorem dX12_comesTo_185 : decode cX12_comesTo 185 = .ok (.iload 6, 2) := by decide +kernel
theorem dX12_comesTo_187 : decode cX12_comesTo 187 = .ok (.bipush 6, 2) := by decide +kernel
theorem dX12_comesTo_189 : decode cX12_comesTo 189 = .ok (.if_icmp .ne 14, 3) := by decide +kernel
theorem dX12_comesTo_192 : decode cX12_comesTo 192 = .ok (.aload_n 0, 1) := by decide +kernel
theorem dX12_comesTo_193 : decode cX12_comesTo 193 = .ok (.getfield 59, 3) := by decide +kernel
theorem dX12_comesTo_196 : decode cX12_comesTo 196 = .ok (.iload_n 3, 1) := by decide +kernel
theorem dX12_comesTo_197 : decode cX12_comesTo 197 = .ok (.iaload, 1) := by decide +kernel
theorem dX12_comesTo_198 : decode cX12_comesTo 198 = .ok (.ifCond .ne 5, 3) := by decide +kernel
theorem dX12_comesTo_201 : decode cX12_comesTo 201 = .ok (.iconst 0, 1) := by decide +kernel
theorem dX12_comesTo_202 : decode cX12_comesTo 202 = .ok (.ireturn, 1) := by decide +kernel
theorem dX12_comesTo_203 : decode cX12_comesTo 203 = .ok (.aload_n 0, 1) := by decide +kernel
theorem dX12_comesTo_204 : decode cX12_comesTo 204 = .ok (.getfield 59, 3) := by decide +kernel
theorem dX12_comesTo_207 : decode cX12_comesTo 207 = .ok (.iload_n 3, 1) := by decide +kernel
theorem dX12_comesTo_208 : decode cX12_comesTo 208 = .ok (.iconst 1, 1) := by decide +kernel
theorem dX12_comesTo_209 : decode cX12_comesTo 209 = .ok (.isub, 1) := by decide +kernel
theorem dX12_comesTo_210 : decode cX12_comesTo 210 = .ok (.iload 6, 2) := by decide +kernel
theorem dX12_comesTo_212 : decode cX12_comesTo 212 = .ok (.aload_n 0, 1) := by decide +kernel
theorem dX12_comesTo_213 : decode cX12_comesTo 213 = .ok (.getfield 59, 3) := by decide +kernel
theorem dX12_comesTo_216 : decode cX12_comesTo 216 = .ok (.iload_n 3, 1) := by decide +kernel
theorem dX12_comesTo_217 : decode cX12_comesTo 217 = .ok (.iconst 1, 1) := by decide +kernel
theorem dX12_comesTo_218 : decode cX12_comesTo 218 = .ok (.isub, 1) := by decide +kernel
theorem dX12_comesTo_219 : decode cX12_comesTo 219 = .ok (.iaload, 1) := by decide +kernel
theorem dX12_comesTo_220 : decode cX12_comesTo 220 = .ok (.aload_n 0, 1) := by decide +kernel
theorem dX12_comesTo_221 : decode cX12_comesTo 221 = .ok (.getfield 59, 3) := by decide +kernel
theorem dX12_comesTo_224 : decode cX12_comesTo 224 = .ok (.iload_n 3, 1) := by decide +kernel
theorem dX12_comesTo_225 : decode cX12_comesTo 225 = .ok (.iaload, 1) := by decide +kernel
theorem dX12_comesTo_226 : decode cX12_comesTo 226 = .ok (.invokestatic 286, 3) := by decide +kernel
theorem dX12_comesTo_229 : decode cX12_comesTo 229 = .ok (.iastore, 1) := by decide +kernel
theorem dX12_comesTo_230 : decode cX12_comesTo 230 = .ok (.goto (-214), 3) := by decide +kernel
theorem dX12_comesTo_233 : decode cX12_comesTo 233 = .ok (.aload_n 0, 1) := by decide +kernel
theorem dX12_comesTo_234 : decode cX12_comesTo 234 = .ok (.getfield 59, 3) := by decide +kernel
theorem dX12_comesTo_237 : decode cX12_comesTo 237 = .ok (.iconst 0, 1) := by decide +kernel
theorem dX12_comesTo_238 : decode cX12_comesTo 238 = .ok (.iaload, 1) := by decide +kernel
theorem dX12_comesTo_239 : decode cX12_comesTo 239 = .ok (.ireturn, 1) := by decide +kernel
theorem dX12_byLaw_0 : decode cX12_byLaw 0 = .ok (.iconst 0, 1) := by decide +kernel
theorem dX12_byLaw_1 : decode cX12_byLaw 1 = .ok (.istore 4, 2) := by decide +kernel
theorem dX12_byLaw_3 : decode cX12_byLaw 3 = .ok (.iload 4, 2) := by decide +kernel
theorem dX12_byLaw_5 : decode cX12_byLaw 5 = .ok (.aload_n 0, 1) := by decide +kernel
theorem dX12_byLaw_6 : decode cX12_byLaw 6 = .ok (.getfield 283, 3) := by decide +kernel
theorem dX12_byLaw_9 : decode cX12_byLaw 9 = .ok (.if_icmp .ge 88, 3) := by decide +kernel
theorem dX12_byLaw_12 : decode cX12_byLaw 12 = .ok (.aload_n 0, 1) := by decide +kernel
theorem dX12_byLaw_13 : decode cX12_byLaw 13 = .ok (.getfield 47, 3) := by decide +kernel
theorem dX12_byLaw_16 : decode cX12_byLaw 16 = .ok (.iload 4, 2) := by decide +kernel
theorem dX12_byLaw_18 : decode cX12_byLaw 18 = .ok (.iaload, 1) := by decide +kernel
theorem dX12_byLaw_19 : decode cX12_byLaw 19 = .ok (.iload_n 1, 1) := by decide +kernel
theorem dX12_byLaw_20 : decode cX12_byLaw 20 = .ok (.if_icmp .ne 71, 3) := by decide +kernel
theorem dX12_byLaw_23 : decode cX12_byLaw 23 = .ok (.aload_n 0, 1) := by decide +kernel
theorem dX12_byLaw_24 : decode cX12_byLaw 24 = .ok (.aload_n 0, 1) := by decide +kernel
theorem dX12_byLaw_25 : decode cX12_byLaw 25 = .ok (.getfield 53, 3) := by decide +kernel
theorem dX12_byLaw_28 : decode cX12_byLaw 28 = .ok (.iload 4, 2) := by decide +kernel
theorem dX12_byLaw_30 : decode cX12_byLaw 30 = .ok (.iaload, 1) := by decide +kernel
theorem dX12_byLaw_31 : decode cX12_byLaw 31 = .ok (.aload_n 0, 1) := by decide +kernel
theorem dX12_byLaw_32 : decode cX12_byLaw 32 = .ok (.getfield 56, 3) := by decide +kernel
theorem dX12_byLaw_35 : decode cX12_byLaw 35 = .ok (.iload 4, 2) := by decide +kernel
theorem dX12_byLaw_37 : decode cX12_byLaw 37 = .ok (.iaload, 1) := by decide +kernel
theorem dX12_byLaw_38 : decode cX12_byLaw 38 = .ok (.invokevirtual 290, 3) := by decide +kernel
theorem dX12_byLaw_41 : decode cX12_byLaw 41 = .ok (.iconst 1, 1) := by decide +kernel
theorem dX12_byLaw_42 : decode cX12_byLaw 42 = .ok (.if_icmp .eq 6, 3) := by decide +kernel
theorem dX12_byLaw_45 : decode cX12_byLaw 45 = .ok (.goto 46, 3) := by decide +kernel
theorem dX12_byLaw_48 : decode cX12_byLaw 48 = .ok (.aload_n 0, 1) := by decide +kernel
theorem dX12_byLaw_49 : decode cX12_byLaw 49 = .ok (.aload_n 0, 1) := by decide +kernel
theorem dX12_byLaw_50 : decode cX12_byLaw 50 = .ok (.getfield 50, 3) := by decide +kernel
theorem dX12_byLaw_53 : decode cX12_byLaw 53 = .ok (.iload 4, 2) := by decide +kernel
theorem dX12_byLaw_55 : decode cX12_byLaw 55 = .ok (.iaload, 1) := by decide +kernel
theorem dX12_byLaw_56 : decode cX12_byLaw 56 = .ok (.aload_n 0, 1) := by decide +kernel
theorem dX12_byLaw_57 : decode cX12_byLaw 57 = .ok (.getfield 53, 3) := by decide +kernel
theorem dX12_byLaw_60 : decode cX12_byLaw 60 = .ok (.iload 4, 2) := by decide +kernel
theorem dX12_byLaw_62 : decode cX12_byLaw 62 = .ok (.iaload, 1) := by decide +kernel
theorem dX12_byLaw_63 : decode cX12_byLaw 63 = .ok (.invokevirtual 290, 3) := by decide +kernel
theorem dX12_byLaw_66 : decode cX12_byLaw 66 = .ok (.istore 5, 2) := by decide +kernel
theorem dX12_byLaw_68 : decode cX12_byLaw 68 = .ok (.iload 5, 2) := by decide +kernel
theorem dX12_byLaw_70 : decode cX12_byLaw 70 = .ok (.iload_n 2, 1) := by decide +kernel
theorem dX12_byLaw_71 : decode cX12_byLaw 71 = .ok (.if_icmp .ge 7, 3) := by decide +kernel
theorem dX12_byLaw_74 : decode cX12_byLaw 74 = .ok (.iload_n 2, 1) := by decide +kernel
theorem dX12_byLaw_75 : decode cX12_byLaw 75 = .ok (.goto 15, 3) := by decide +kernel
theorem dX12_byLaw_78 : decode cX12_byLaw 78 = .ok (.iload 5, 2) := by decide +kernel
theorem dX12_byLaw_80 : decode cX12_byLaw 80 = .ok (.iload_n 3, 1) := by decide +kernel
theorem dX12_byLaw_81 : decode cX12_byLaw 81 = .ok (.if_icmp .le 7, 3) := by decide +kernel
theorem dX12_byLaw_84 : decode cX12_byLaw 84 = .ok (.iload_n 3, 1) := by decide +kernel
theorem dX12_byLaw_85 : decode cX12_byLaw 85 = .ok (.goto 5, 3) := by decide +kernel
theorem dX12_byLaw_88 : decode cX12_byLaw 88 = .ok (.iload 5, 2) := by decide +kernel
theorem dX12_byLaw_90 : decode cX12_byLaw 90 = .ok (.ireturn, 1) := by decide +kernel
theorem dX12_byLaw_91 : decode cX12_byLaw 91 = .ok (.iinc 4 1, 3) := by decide +kernel
theorem dX12_byLaw_94 : decode cX12_byLaw 94 = .ok (.goto (-91), 3) := by decide +kernel
theorem dX12_byLaw_97 : decode cX12_byLaw 97 = .ok (.iconst 0, 1) := by decide +kernel
theorem dX12_byLaw_98 : decode cX12_byLaw 98 = .ok (.ireturn, 1) := by decide +kernel
theorem dX12_feelsOne_0 : decode cX12_feelsOne 0 = .ok (.iconst 0, 1) := by decide +kernel
theorem dX12_feelsOne_1 : decode cX12_feelsOne 1 = .ok (.istore_n 3, 1) := by decide +kernel
theorem dX12_feelsOne_2 : decode cX12_feelsOne 2 = .ok (.iload_n 3, 1) := by decide +kernel
theorem dX12_feelsOne_3 : decode cX12_feelsOne 3 = .ok (.bipush 10, 2) := by decide +kernel
theorem dX12_feelsOne_5 : decode cX12_feelsOne 5 = .ok (.if_icmp .ge 16, 3) := by decide +kernel
theorem dX12_feelsOne_8 : decode cX12_feelsOne 8 = .ok (.aload_n 0, 1) := by decide +kernel
theorem dX12_feelsOne_9 : decode cX12_feelsOne 9 = .ok (.getfield 62, 3) := by decide +kernel
theorem dX12_feelsOne_12 : decode cX12_feelsOne 12 = .ok (.iload_n 3, 1) := by decide +kernel
theorem dX12_feelsOne_13 : decode cX12_feelsOne 13 = .ok (.iconst 0, 1) := by decide +kernel
theorem dX12_feelsOne_14 : decode cX12_feelsOne 14 = .ok (.iastore, 1) := by decide +kernel
theorem dX12_feelsOne_15 : decode cX12_feelsOne 15 = .ok (.iinc 3 1, 3) := by decide +kernel
theorem dX12_feelsOne_18 : decode cX12_feelsOne 18 = .ok (.goto (-16), 3) := by decide +kernel
theorem dX12_feelsOne_21 : decode cX12_feelsOne 21 = .ok (.aload_n 0, 1) := by decide +kernel
theorem dX12_feelsOne_22 : decode cX12_feelsOne 22 = .ok (.getfield 62, 3) := by decide +kernel
theorem dX12_feelsOne_25 : decode cX12_feelsOne 25 = .ok (.iconst 0, 1) := by decide +kernel
theorem dX12_feelsOne_26 : decode cX12_feelsOne 26 = .ok (.iload_n 1, 1) := by decide +kernel
theorem dX12_feelsOne_27 : decode cX12_feelsOne 27 = .ok (.iastore, 1) := by decide +kernel
theorem dX12_feelsOne_28 : decode cX12_feelsOne 28 = .ok (.aload_n 0, 1) := by decide +kernel
theorem dX12_feelsOne_29 : decode cX12_feelsOne 29 = .ok (.getfield 62, 3) := by decide +kernel
theorem dX12_feelsOne_32 : decode cX12_feelsOne 32 = .ok (.iconst 2, 1) := by decide +kernel
theorem dX12_feelsOne_33 : decode cX12_feelsOne 33 = .ok (.aload_n 0, 1) := by decide +kernel
theorem dX12_feelsOne_34 : decode cX12_feelsOne 34 = .ok (.getfield 7, 3) := by decide +kernel
theorem dX12_feelsOne_37 : decode cX12_feelsOne 37 = .ok (.iload_n 1, 1) := by decide +kernel
theorem dX12_feelsOne_38 : decode cX12_feelsOne 38 = .ok (.iaload, 1) := by decide +kernel
theorem dX12_feelsOne_39 : decode cX12_feelsOne 39 = .ok (.iastore, 1) := by decide +kernel
theorem dX12_feelsOne_40 : decode cX12_feelsOne 40 = .ok (.aload_n 0, 1) := by decide +kernel
theorem dX12_feelsOne_41 : decode cX12_feelsOne 41 = .ok (.getfield 62, 3) := by decide +kernel
theorem dX12_feelsOne_44 : decode cX12_feelsOne 44 = .ok (.iconst 4, 1) := by decide +kernel
theorem dX12_feelsOne_45 : decode cX12_feelsOne 45 = .ok (.iload_n 2, 1) := by decide +kernel
theorem dX12_feelsOne_46 : decode cX12_feelsOne 46 = .ok (.iastore, 1) := by decide +kernel
theorem dX12_feelsOne_47 : decode cX12_feelsOne 47 = .ok (.return_, 1) := by decide +kernel
theorem dX12_feels_0 : decode cX12_feels 0 = .ok (.aload_n 0, 1) := by decide +kernel
theorem dX12_feels_1 : decode cX12_feels 1 = .ok (.iload_n 1, 1) := by decide +kernel
theorem dX12_feels_2 : decode cX12_feels 2 = .ok (.aload_n 0, 1) := by decide +kernel
theorem dX12_feels_3 : decode cX12_feels 3 = .ok (.getfield 13, 3) := by decide +kernel
theorem dX12_feels_6 : decode cX12_feels 6 = .ok (.iload_n 1, 1) := by decide +kernel
theorem dX12_feels_7 : decode cX12_feels 7 = .ok (.iaload, 1) := by decide +kernel
theorem dX12_feels_8 : decode cX12_feels 8 = .ok (.invokevirtual 294, 3) := by decide +kernel
theorem dX12_feels_11 : decode cX12_feels 11 = .ok (.aload_n 0, 1) := by decide +kernel
theorem dX12_feels_12 : decode cX12_feels 12 = .ok (.getfield 62, 3) := by decide +kernel
theorem dX12_feels_15 : decode cX12_feels 15 = .ok (.iconst 1, 1) := by decide +kernel
theorem dX12_feels_16 : decode cX12_feels 16 = .ok (.iload_n 2, 1) := by decide +kernel
theorem dX12_feels_17 : decode cX12_feels 17 = .ok (.iastore, 1) := by decide +kernel
theorem dX12_feels_18 : decode cX12_feels 18 = .ok (.aload_n 0, 1) := by decide +kernel
theorem dX12_feels_19 : decode cX12_feels 19 = .ok (.getfield 62, 3) := by decide +kernel
theorem dX12_feels_22 : decode cX12_feels 22 = .ok (.iconst 3, 1) := by decide +kernel
theorem dX12_feels_23 : decode cX12_feels 23 = .ok (.aload_n 0, 1) := by decide +kernel
theorem dX12_feels_24 : decode cX12_feels 24 = .ok (.getfield 7, 3) := by decide +kernel
theorem dX12_feels_27 : decode cX12_feels 27 = .ok (.iload_n 2, 1) := by decide +kernel
theorem dX12_feels_28 : decode cX12_feels 28 = .ok (.iaload, 1) := by decide +kernel
theorem dX12_feels_29 : decode cX12_feels 29 = .ok (.iastore, 1) := by decide +kernel
theorem dX12_feels_30 : decode cX12_feels 30 = .ok (.aload_n 0, 1) := by decide +kernel
theorem dX12_feels_31 : decode cX12_feels 31 = .ok (.getfield 62, 3) := by decide +kernel
theorem dX12_feels_34 : decode cX12_feels 34 = .ok (.iconst 5, 1) := by decide +kernel
theorem dX12_feels_35 : decode cX12_feels 35 = .ok (.aload_n 0, 1) := by decide +kernel
theorem dX12_feels_36 : decode cX12_feels 36 = .ok (.getfield 13, 3) := by decide +kernel
theorem dX12_feels_39 : decode cX12_feels 39 = .ok (.iload_n 2, 1) := by decide +kernel
theorem dX12_feels_40 : decode cX12_feels 40 = .ok (.iaload, 1) := by decide +kernel
theorem dX12_feels_41 : decode cX12_feels 41 = .ok (.iastore, 1) := by decide +kernel
theorem dX12_feels_42 : decode cX12_feels 42 = .ok (.aload_n 0, 1) := by decide +kernel
theorem dX12_feels_43 : decode cX12_feels 43 = .ok (.getfield 62, 3) := by decide +kernel
theorem dX12_feels_46 : decode cX12_feels 46 = .ok (.bipush 6, 2) := by decide +kernel
theorem dX12_feels_48 : decode cX12_feels 48 = .ok (.aload_n 0, 1) := by decide +kernel
theorem dX12_feels_49 : decode cX12_feels 49 = .ok (.getfield 16, 3) := by decide +kernel
theorem dX12_feels_52 : decode cX12_feels 52 = .ok (.bipush 16, 2) := by decide +kernel
theorem dX12_feels_54 : decode cX12_feels 54 = .ok (.iload_n 1, 1) := by decide +kernel
theorem dX12_feels_55 : decode cX12_feels 55 = .ok (.imul, 1) := by decide +kernel
theorem dX12_feels_56 : decode cX12_feels 56 = .ok (.iload_n 2, 1) := by decide +kernel
theorem dX12_feels_57 : decode cX12_feels 57 = .ok (.iadd, 1) := by decide +kernel
theorem dX12_feels_58 : decode cX12_feels 58 = .ok (.iaload, 1) := by decide +kernel
theorem dX12_feels_59 : decode cX12_feels 59 = .ok (.iastore, 1) := by decide +kernel
theorem dX12_feels_60 : decode cX12_feels 60 = .ok (.aload_n 0, 1) := by decide +kernel
theorem dX12_feels_61 : decode cX12_feels 61 = .ok (.getfield 62, 3) := by decide +kernel
theorem dX12_feels_64 : decode cX12_feels 64 = .ok (.bipush 7, 2) := by decide +kernel
theorem dX12_feels_66 : decode cX12_feels 66 = .ok (.aload_n 0, 1) := by decide +kernel
theorem dX12_feels_67 : decode cX12_feels 67 = .ok (.getfield 16, 3) := by decide +kernel
theorem dX12_feels_70 : decode cX12_feels 70 = .ok (.bipush 16, 2) := by decide +kernel
theorem dX12_feels_72 : decode cX12_feels 72 = .ok (.iload_n 2, 1) := by decide +kernel
theorem dX12_feels_73 : decode cX12_feels 73 = .ok (.imul, 1) := by decide +kernel
theorem dX12_feels_74 : decode cX12_feels 74 = .ok (.iload_n 1, 1) := by decide +kernel
theorem dX12_feels_75 : decode cX12_feels 75 = .ok (.iadd, 1) := by decide +kernel
theorem dX12_feels_76 : decode cX12_feels 76 = .ok (.iaload, 1) := by decide +kernel
theorem dX12_feels_77 : decode cX12_feels 77 = .ok (.iastore, 1) := by decide +kernel
theorem dX12_feels_78 : decode cX12_feels 78 = .ok (.aload_n 0, 1) := by decide +kernel
theorem dX12_feels_79 : decode cX12_feels 79 = .ok (.getfield 62, 3) := by decide +kernel
theorem dX12_feels_82 : decode cX12_feels 82 = .ok (.bipush 8, 2) := by decide +kernel
theorem dX12_feels_84 : decode cX12_feels 84 = .ok (.aload_n 0, 1) := by decide +kernel
theorem dX12_feels_85 : decode cX12_feels 85 = .ok (.getfield 13, 3) := by decide +kernel
theorem dX12_feels_88 : decode cX12_feels 88 = .ok (.iload_n 1, 1) := by decide +kernel
theorem dX12_feels_89 : decode cX12_feels 89 = .ok (.iaload, 1) := by decide +kernel
theorem dX12_feels_90 : decode cX12_feels 90 = .ok (.iconst 2, 1) := by decide +kernel
theorem dX12_feels_91 : decode cX12_feels 91 = .ok (.idiv, 1) := by decide +kernel
theorem dX12_feels_92 : decode cX12_feels 92 = .ok (.aload_n 0, 1) := by decide +kernel
theorem dX12_feels_93 : decode cX12_feels 93 = .ok (.getfield 13, 3) := by decide +kernel
theorem dX12_feels_96 : decode cX12_feels 96 = .ok (.iload_n 2, 1) := by decide +kernel
theorem dX12_feels_97 : decode cX12_feels 97 = .ok (.iaload, 1) := by decide +kernel
theorem dX12_feels_98 : decode cX12_feels 98 = .ok (.iconst 2, 1) := by decide +kernel
theorem dX12_feels_99 : decode cX12_feels 99 = .ok (.idiv, 1) := by decide +kernel
theorem dX12_feels_100 : decode cX12_feels 100 = .ok (.isub, 1) := by decide +kernel
theorem dX12_feels_101 : decode cX12_feels 101 = .ok (.invokestatic 297, 3) := by decide +kernel
theorem dX12_feels_104 : decode cX12_feels 104 = .ok (.iastore, 1) := by decide +kernel
theorem dX12_feels_105 : decode cX12_feels 105 = .ok (.aload_n 0, 1) := by decide +kernel
theorem dX12_feels_106 : decode cX12_feels 106 = .ok (.getfield 62, 3) := by decide +kernel
theorem dX12_feels_109 : decode cX12_feels 109 = .ok (.bipush 9, 2) := by decide +kernel
theorem dX12_feels_111 : decode cX12_feels 111 = .ok (.aload_n 0, 1) := by decide +kernel
theorem dX12_feels_112 : decode cX12_feels 112 = .ok (.getfield 13, 3) := by decide +kernel
theorem dX12_feels_115 : decode cX12_feels 115 = .ok (.iload_n 1, 1) := by decide +kernel
theorem dX12_feels_116 : decode cX12_feels 116 = .ok (.iaload, 1) := by decide +kernel
theorem dX12_feels_117 : decode cX12_feels 117 = .ok (.iconst 2, 1) := by decide +kernel
theorem dX12_feels_118 : decode cX12_feels 118 = .ok (.irem, 1) := by decide +kernel
theorem dX12_feels_119 : decode cX12_feels 119 = .ok (.aload_n 0, 1) := by decide +kernel
theorem dX12_feels_120 : decode cX12_feels 120 = .ok (.getfield 13, 3) := by decide +kernel
theorem dX12_feels_123 : decode cX12_feels 123 = .ok (.iload_n 2, 1) := by decide +kernel
theorem dX12_feels_124 : decode cX12_feels 124 = .ok (.iaload, 1) := by decide +kernel
theorem dX12_feels_125 : decode cX12_feels 125 = .ok (.iconst 2, 1) := by decide +kernel
theorem dX12_feels_126 : decode cX12_feels 126 = .ok (.irem, 1) := by decide +kernel
theorem dX12_feels_127 : decode cX12_feels 127 = .ok (.if_icmp .ne 7, 3) := by decide +kernel
theorem dX12_feels_130 : decode cX12_feels 130 = .ok (.iconst 0, 1) := by decide +kernel
theorem dX12_feels_131 : decode cX12_feels 131 = .ok (.goto 4, 3) := by decide +kernel
theorem dX12_feels_134 : decode cX12_feels 134 = .ok (.iconst 1, 1) := by decide +kernel
theorem dX12_feels_135 : decode cX12_feels 135 = .ok (.iastore, 1) := by decide +kernel
theorem dX12_feels_136 : decode cX12_feels 136 = .ok (.return_, 1) := by decide +kernel
theorem dX12_lets_0 : decode cX12_lets 0 = .ok (.aload_n 0, 1) := by decide +kernel
theorem dX12_lets_1 : decode cX12_lets 1 = .ok (.iload_n 1, 1) := by decide +kernel
theorem dX12_lets_2 : decode cX12_lets 2 = .ok (.iload_n 2, 1) := by decide +kernel
theorem dX12_lets_3 : decode cX12_lets 3 = .ok (.invokevirtual 300, 3) := by decide +kernel
theorem dX12_lets_6 : decode cX12_lets 6 = .ok (.iconst 0, 1) := by decide +kernel
theorem dX12_lets_7 : decode cX12_lets 7 = .ok (.istore_n 3, 1) := by decide +kernel
theorem dX12_lets_8 : decode cX12_lets 8 = .ok (.iconst 0, 1) := by decide +kernel
theorem dX12_lets_9 : decode cX12_lets 9 = .ok (.istore 4, 2) := by decide +kernel
theorem dX12_lets_11 : decode cX12_lets 11 = .ok (.iload 4, 2) := by decide +kernel
theorem dX12_lets_13 : decode cX12_lets 13 = .ok (.aload_n 0, 1) := by decide +kernel
theorem dX12_lets_14 : decode cX12_lets 14 = .ok (.getfield 283, 3) := by decide +kernel
theorem dX12_lets_17 : decode cX12_lets 17 = .ok (.if_icmp .ge 50, 3) := by decide +kernel
theorem dX12_lets_20 : decode cX12_lets 20 = .ok (.aload_n 0, 1) := by decide +kernel
theorem dX12_lets_21 : decode cX12_lets 21 = .ok (.getfield 47, 3) := by decide +kernel
theorem dX12_lets_24 : decode cX12_lets 24 = .ok (.iload 4, 2) := by decide +kernel
theorem dX12_lets_26 : decode cX12_lets 26 = .ok (.iaload, 1) := by decide +kernel
theorem dX12_lets_27 : decode cX12_lets 27 = .ok (.bipush 112, 2) := by decide +kernel
theorem dX12_lets_29 : decode cX12_lets 29 = .ok (.if_icmp .eq 6, 3) := by decide +kernel
theorem dX12_lets_32 : decode cX12_lets 32 = .ok (.goto 29, 3) := by decide +kernel
theorem dX12_lets_35 : decode cX12_lets 35 = .ok (.iconst 1, 1) := by decide +kernel
theorem dX12_lets_36 : decode cX12_lets 36 = .ok (.istore_n 3, 1) := by decide +kernel
theorem dX12_lets_37 : decode cX12_lets 37 = .ok (.aload_n 0, 1) := by decide +kernel
theorem dX12_lets_38 : decode cX12_lets 38 = .ok (.aload_n 0, 1) := by decide +kernel
theorem dX12_lets_39 : decode cX12_lets 39 = .ok (.getfield 53, 3) := by decide +kernel
theorem dX12_lets_42 : decode cX12_lets 42 = .ok (.iload 4, 2) := by decide +kernel
theorem dX12_lets_44 : decode cX12_lets 44 = .ok (.iaload, 1) := by decide +kernel
theorem dX12_lets_45 : decode cX12_lets 45 = .ok (.aload_n 0, 1) := by decide +kernel
theorem dX12_lets_46 : decode cX12_lets 46 = .ok (.getfield 56, 3) := by decide +kernel
theorem dX12_lets_49 : decode cX12_lets 49 = .ok (.iload 4, 2) := by decide +kernel
theorem dX12_lets_51 : decode cX12_lets 51 = .ok (.iaload, 1) := by decide +kernel
theorem dX12_lets_52 : decode cX12_lets 52 = .ok (.invokevirtual 290, 3) := by decide +kernel
theorem dX12_lets_55 : decode cX12_lets 55 = .ok (.iconst 1, 1) := by decide +kernel
theorem dX12_lets_56 : decode cX12_lets 56 = .ok (.if_icmp .ne 5, 3) := by decide +kernel
theorem dX12_lets_59 : decode cX12_lets 59 = .ok (.iconst 1, 1) := by decide +kernel
theorem dX12_lets_60 : decode cX12_lets 60 = .ok (.ireturn, 1) := by decide +kernel
theorem dX12_lets_61 : decode cX12_lets 61 = .ok (.iinc 4 1, 3) := by decide +kernel
theorem dX12_lets_64 : decode cX12_lets 64 = .ok (.goto (-53), 3) := by decide +kernel
theorem dX12_lets_67 : decode cX12_lets 67 = .ok (.iload_n 3, 1) := by decide +kernel
theorem dX12_lets_68 : decode cX12_lets 68 = .ok (.ifCond .ne 7, 3) := by decide +kernel
theorem dX12_lets_71 : decode cX12_lets 71 = .ok (.iconst 1, 1) := by decide +kernel
theorem dX12_lets_72 : decode cX12_lets 72 = .ok (.goto 4, 3) := by decide +kernel
theorem dX12_lets_75 : decode cX12_lets 75 = .ok (.iconst 0, 1) := by decide +kernel
theorem dX12_lets_76 : decode cX12_lets 76 = .ok (.ireturn, 1) := by decide +kernel
theorem dX12_harmOf_0 : decode cX12_harmOf 0 = .ok (.aload_n 0, 1) := by decide +kernel
theorem dX12_harmOf_1 : decode cX12_harmOf 1 = .ok (.iload_n 1, 1) := by decide +kernel
theorem dX12_harmOf_2 : decode cX12_harmOf 2 = .ok (.iload_n 2, 1) := by decide +kernel
theorem dX12_harmOf_3 : decode cX12_harmOf 3 = .ok (.if_icmp .ge 7, 3) := by decide +kernel
theorem dX12_harmOf_6 : decode cX12_harmOf 6 = .ok (.iload_n 1, 1) := by decide +kernel
theorem dX12_harmOf_7 : decode cX12_harmOf 7 = .ok (.goto 4, 3) := by decide +kernel
theorem dX12_harmOf_10 : decode cX12_harmOf 10 = .ok (.iload_n 2, 1) := by decide +kernel
theorem dX12_harmOf_11 : decode cX12_harmOf 11 = .ok (.iload_n 1, 1) := by decide +kernel
theorem dX12_harmOf_12 : decode cX12_harmOf 12 = .ok (.iload_n 2, 1) := by decide +kernel
theorem dX12_harmOf_13 : decode cX12_harmOf 13 = .ok (.if_icmp .ge 7, 3) := by decide +kernel
theorem dX12_harmOf_16 : decode cX12_harmOf 16 = .ok (.iload_n 2, 1) := by decide +kernel
theorem dX12_harmOf_17 : decode cX12_harmOf 17 = .ok (.goto 4, 3) := by decide +kernel
theorem dX12_harmOf_20 : decode cX12_harmOf 20 = .ok (.iload_n 1, 1) := by decide +kernel
theorem dX12_harmOf_21 : decode cX12_harmOf 21 = .ok (.invokevirtual 300, 3) := by decide +kernel
theorem dX12_harmOf_24 : decode cX12_harmOf 24 = .ok (.aload_n 0, 1) := by decide +kernel
theorem dX12_harmOf_25 : decode cX12_harmOf 25 = .ok (.bipush 104, 2) := by decide +kernel
theorem dX12_harmOf_27 : decode cX12_harmOf 27 = .ok (.iconst 0, 1) := by decide +kernel
theorem dX12_harmOf_28 : decode cX12_harmOf 28 = .ok (.bipush 99, 2) := by decide +kernel
theorem dX12_harmOf_30 : decode cX12_harmOf 30 = .ok (.invokevirtual 303, 3) := by decide +kernel
theorem dX12_harmOf_33 : decode cX12_harmOf 33 = .ok (.ireturn, 1) := by decide +kernel
theorem dX12_seenBy_0 : decode cX12_seenBy 0 = .ok (.aload_n 0, 1) := by decide +kernel
theorem dX12_seenBy_1 : decode cX12_seenBy 1 = .ok (.iload_n 1, 1) := by decide +kernel
theorem dX12_seenBy_2 : decode cX12_seenBy 2 = .ok (.iload_n 2, 1) := by decide +kernel
theorem dX12_seenBy_3 : decode cX12_seenBy 3 = .ok (.invokevirtual 300, 3) := by decide +kernel
theorem dX12_seenBy_6 : decode cX12_seenBy 6 = .ok (.aload_n 0, 1) := by decide +kernel
theorem dX12_seenBy_7 : decode cX12_seenBy 7 = .ok (.bipush 118, 2) := by decide +kernel
theorem dX12_seenBy_9 : decode cX12_seenBy 9 = .ok (.iconst 0, 1) := by decide +kernel
theorem dX12_seenBy_10 : decode cX12_seenBy 10 = .ok (.sipush 1000, 3) := by decide +kernel
theorem dX12_seenBy_13 : decode cX12_seenBy 13 = .ok (.invokevirtual 303, 3) := by decide +kernel
theorem dX12_seenBy_16 : decode cX12_seenBy 16 = .ok (.ireturn, 1) := by decide +kernel
theorem dX12_worthOf_0 : decode cX12_worthOf 0 = .ok (.aload_n 0, 1) := by decide +kernel
theorem dX12_worthOf_1 : decode cX12_worthOf 1 = .ok (.iload_n 1, 1) := by decide +kernel
theorem dX12_worthOf_2 : decode cX12_worthOf 2 = .ok (.iload_n 2, 1) := by decide +kernel
theorem dX12_worthOf_3 : decode cX12_worthOf 3 = .ok (.invokevirtual 294, 3) := by decide +kernel
theorem dX12_worthOf_6 : decode cX12_worthOf 6 = .ok (.aload_n 0, 1) := by decide +kernel
theorem dX12_worthOf_7 : decode cX12_worthOf 7 = .ok (.bipush 119, 2) := by decide +kernel
theorem dX12_worthOf_9 : decode cX12_worthOf 9 = .ok (.bipush (-99), 2) := by decide +kernel
theorem dX12_worthOf_11 : decode cX12_worthOf 11 = .ok (.bipush 99, 2) := by decide +kernel
theorem dX12_worthOf_13 : decode cX12_worthOf 13 = .ok (.invokevirtual 303, 3) := by decide +kernel
theorem dX12_worthOf_16 : decode cX12_worthOf 16 = .ok (.ireturn, 1) := by decide +kernel
theorem dX12_beside_0 : decode cX12_beside 0 = .ok (.iload_n 1, 1) := by decide +kernel
theorem dX12_beside_1 : decode cX12_beside 1 = .ok (.iconst 2, 1) := by decide +kernel
theorem dX12_beside_2 : decode cX12_beside 2 = .ok (.if_icmp .ne 21, 3) := by decide +kernel
theorem dX12_beside_5 : decode cX12_beside 5 = .ok (.iload_n 0, 1) := by decide +kernel
theorem dX12_beside_6 : decode cX12_beside 6 = .ok (.iconst 2, 1) := by decide +kernel
theorem dX12_beside_7 : decode cX12_beside 7 = .ok (.irem, 1) := by decide +kernel
theorem dX12_beside_8 : decode cX12_beside 8 = .ok (.ifCond .ne 9, 3) := by decide +kernel
theorem dX12_beside_11 : decode cX12_beside 11 = .ok (.iload_n 0, 1) := by decide +kernel
theorem dX12_beside_12 : decode cX12_beside 12 = .ok (.iconst 1, 1) := by decide +kernel
theorem dX12_beside_13 : decode cX12_beside 13 = .ok (.iadd, 1) := by decide +kernel
theorem dX12_beside_14 : decode cX12_beside 14 = .ok (.goto 23, 3) := by decide +kernel
theorem dX12_beside_17 : decode cX12_beside 17 = .ok (.iload_n 0, 1) := by decide +kernel
theorem dX12_beside_18 : decode cX12_beside 18 = .ok (.iconst 1, 1) := by decide +kernel
theorem dX12_beside_19 : decode cX12_beside 19 = .ok (.isub, 1) := by decide +kernel
theorem dX12_beside_20 : decode cX12_beside 20 = .ok (.goto 17, 3) := by decide +kernel
theorem dX12_beside_23 : decode cX12_beside 23 = .ok (.iload_n 1, 1) := by decide +kernel
theorem dX12_beside_24 : decode cX12_beside 24 = .ok (.iconst 1, 1) := by decide +kernel
theorem dX12_beside_25 : decode cX12_beside 25 = .ok (.if_icmp .ne 9, 3) := by decide +kernel
theorem dX12_beside_28 : decode cX12_beside 28 = .ok (.iload_n 0, 1) := by decide +kernel
theorem dX12_beside_29 : decode cX12_beside 29 = .ok (.iconst 2, 1) := by decide +kernel
theorem dX12_beside_30 : decode cX12_beside 30 = .ok (.iadd, 1) := by decide +kernel
theorem dX12_beside_31 : decode cX12_beside 31 = .ok (.goto 6, 3) := by decide +kernel
theorem dX12_beside_34 : decode cX12_beside 34 = .ok (.iload_n 0, 1) := by decide +kernel
theorem dX12_beside_35 : decode cX12_beside 35 = .ok (.iconst 2, 1) := by decide +kernel
theorem dX12_beside_36 : decode cX12_beside 36 = .ok (.isub, 1) := by decide +kernel
theorem dX12_beside_37 : decode cX12_beside 37 = .ok (.istore_n 2, 1) := by decide +kernel
theorem dX12_beside_38 : decode cX12_beside 38 = .ok (.iload_n 2, 1) := by decide +kernel
theorem dX12_beside_39 : decode cX12_beside 39 = .ok (.invokestatic 175, 3) := by decide +kernel
theorem dX12_beside_42 : decode cX12_beside 42 = .ok (.ifCond .eq 7, 3) := by decide +kernel
theorem dX12_beside_45 : decode cX12_beside 45 = .ok (.iload_n 2, 1) := by decide +kernel
theorem dX12_beside_46 : decode cX12_beside 46 = .ok (.goto 4, 3) := by decide +kernel
theorem dX12_beside_49 : decode cX12_beside 49 = .ok (.iconst (-1), 1) := by decide +kernel
theorem dX12_beside_50 : decode cX12_beside 50 = .ok (.ireturn, 1) := by decide +kernel
theorem dX12_areNext_0 : decode cX12_areNext 0 = .ok (.iconst 0, 1) := by decide +kernel
theorem dX12_areNext_1 : decode cX12_areNext 1 = .ok (.istore_n 2, 1) := by decide +kernel
theorem dX12_areNext_2 : decode cX12_areNext 2 = .ok (.iload_n 2, 1) := by decide +kernel
theorem dX12_areNext_3 : decode cX12_areNext 3 = .ok (.iconst 3, 1) := by decide +kernel
theorem dX12_areNext_4 : decode cX12_areNext 4 = .ok (.if_icmp .ge 25, 3) := by decide +kernel
theorem dX12_areNext_7 : decode cX12_areNext 7 = .ok (.iload_n 1, 1) := by decide +kernel
theorem dX12_areNext_8 : decode cX12_areNext 8 = .ok (.iconst (-1), 1) := by decide +kernel
theorem dX12_areNext_9 : decode cX12_areNext 9 = .ok (.if_icmp .eq 14, 3) := by decide +kernel
theorem dX12_areNext_12 : decode cX12_areNext 12 = .ok (.iload_n 0, 1) := by decide +kernel
theorem dX12_areNext_13 : decode cX12_areNext 13 = .ok (.iload_n 2, 1) := by decide +kernel
theorem dX12_areNext_14 : decode cX12_areNext 14 = .ok (.invokestatic 306, 3) := by decide +kernel
theorem dX12_areNext_17 : decode cX12_areNext 17 = .ok (.iload_n 1, 1) := by decide +kernel
theorem dX12_areNext_18 : decode cX12_areNext 18 = .ok (.if_icmp .ne 5, 3) := by decide +kernel
theorem dX12_areNext_21 : decode cX12_areNext 21 = .ok (.iconst 1, 1) := by decide +kernel
theorem dX12_areNext_22 : decode cX12_areNext 22 = .ok (.ireturn, 1) := by decide +kernel
theorem dX12_areNext_23 : decode cX12_areNext 23 = .ok (.iinc 2 1, 3) := by decide +kernel
theorem dX12_areNext_26 : decode cX12_areNext 26 = .ok (.goto (-24), 3) := by decide +kernel
theorem dX12_areNext_29 : decode cX12_areNext 29 = .ok (.iconst 0, 1) := by decide +kernel
theorem dX12_areNext_30 : decode cX12_areNext 30 = .ok (.ireturn, 1) := by decide +kernel
theorem dX12_sitNext_0 : decode cX12_sitNext 0 = .ok (.aload_n 0, 1) := by decide +kernel
theorem dX12_sitNext_1 : decode cX12_sitNext 1 = .ok (.iload_n 1, 1) := by decide +kernel
theorem dX12_sitNext_2 : decode cX12_sitNext 2 = .ok (.invokevirtual 309, 3) := by decide +kernel
theorem dX12_sitNext_5 : decode cX12_sitNext 5 = .ok (.ifCond .eq 33, 3) := by decide +kernel
theorem dX12_sitNext_8 : decode cX12_sitNext 8 = .ok (.aload_n 0, 1) := by decide +kernel
theorem dX12_sitNext_9 : decode cX12_sitNext 9 = .ok (.iload_n 2, 1) := by decide +kernel
theorem dX12_sitNext_10 : decode cX12_sitNext 10 = .ok (.invokevirtual 309, 3) := by decide +kernel
theorem dX12_sitNext_13 : decode cX12_sitNext 13 = .ok (.ifCond .eq 25, 3) := by decide +kernel
theorem dX12_sitNext_16 : decode cX12_sitNext 16 = .ok (.aload_n 0, 1) := by decide +kernel
theorem dX12_sitNext_17 : decode cX12_sitNext 17 = .ok (.getfield 13, 3) := by decide +kernel
theorem dX12_sitNext_20 : decode cX12_sitNext 20 = .ok (.iload_n 1, 1) := by decide +kernel
theorem dX12_sitNext_21 : decode cX12_sitNext 21 = .ok (.iaload, 1) := by decide +kernel
theorem dX12_sitNext_22 : decode cX12_sitNext 22 = .ok (.aload_n 0, 1) := by decide +kernel
theorem dX12_sitNext_23 : decode cX12_sitNext 23 = .ok (.getfield 13, 3) := by decide +kernel
theorem dX12_sitNext_26 : decode cX12_sitNext 26 = .ok (.iload_n 2, 1) := by decide +kernel
theorem dX12_sitNext_27 : decode cX12_sitNext 27 = .ok (.iaload, 1) := by decide +kernel
theorem dX12_sitNext_28 : decode cX12_sitNext 28 = .ok (.invokestatic 312, 3) := by decide +kernel
theorem dX12_sitNext_31 : decode cX12_sitNext 31 = .ok (.ifCond .eq 7, 3) := by decide +kernel
theorem dX12_sitNext_34 : decode cX12_sitNext 34 = .ok (.iconst 1, 1) := by decide +kernel
theorem dX12_sitNext_35 : decode cX12_sitNext 35 = .ok (.goto 4, 3) := by decide +kernel
theorem dX12_sitNext_38 : decode cX12_sitNext 38 = .ok (.iconst 0, 1) := by decide +kernel
theorem dX12_sitNext_39 : decode cX12_sitNext 39 = .ok (.ireturn, 1) := by decide +kernel
theorem dX12_two_0 : decode cX12_two 0 = .ok (.aload_n 0, 1) := by decide +kernel
theorem dX12_two_1 : decode cX12_two 1 = .ok (.iload_n 1, 1) := by decide +kernel
theorem dX12_two_2 : decode cX12_two 2 = .ok (.invokevirtual 183, 3) := by decide +kernel
theorem dX12_two_5 : decode cX12_two 5 = .ok (.ifCond .eq 25, 3) := by decide +kernel
theorem dX12_two_8 : decode cX12_two 8 = .ok (.aload_n 0, 1) := by decide +kernel
theorem dX12_two_9 : decode cX12_two 9 = .ok (.iload_n 2, 1) := by decide +kernel
theorem dX12_two_10 : decode cX12_two 10 = .ok (.invokevirtual 183, 3) := by decide +kernel
theorem dX12_two_13 : decode cX12_two 13 = .ok (.ifCond .eq 17, 3) := by decide +kernel
theorem dX12_two_16 : decode cX12_two 16 = .ok (.iload_n 1, 1) := by decide +kernel
theorem dX12_two_17 : decode cX12_two 17 = .ok (.iload_n 2, 1) := by decide +kernel
theorem dX12_two_18 : decode cX12_two 18 = .ok (.if_icmp .eq 12, 3) := by decide +kernel
theorem dX12_two_21 : decode cX12_two 21 = .ok (.iload_n 3, 1) := by decide +kernel
theorem dX12_two_22 : decode cX12_two 22 = .ok (.iconst 0, 1) := by decide +kernel
theorem dX12_two_23 : decode cX12_two 23 = .ok (.iconst 2, 1) := by decide +kernel
theorem dX12_two_24 : decode cX12_two 24 = .ok (.invokestatic 171, 3) := by decide +kernel
theorem dX12_two_27 : decode cX12_two 27 = .ok (.ifCond .ne 5, 3) := by decide +kernel
theorem dX12_two_30 : decode cX12_two 30 = .ok (.iconst (-1), 1) := by decide +kernel
theorem dX12_two_31 : decode cX12_two 31 = .ok (.ireturn, 1) := by decide +kernel
theorem dX12_two_32 : decode cX12_two 32 = .ok (.aload_n 0, 1) := by decide +kernel
theorem dX12_two_33 : decode cX12_two 33 = .ok (.iload_n 1, 1) := by decide +kernel
theorem dX12_two_34 : decode cX12_two 34 = .ok (.invokevirtual 309, 3) := by decide +kernel
theorem dX12_two_37 : decode cX12_two 37 = .ok (.ifCond .eq 25, 3) := by decide +kernel
theorem dX12_two_40 : decode cX12_two 40 = .ok (.aload_n 0, 1) := by decide +kernel
theorem dX12_two_41 : decode cX12_two 41 = .ok (.iload_n 2, 1) := by decide +kernel
theorem dX12_two_42 : decode cX12_two 42 = .ok (.invokevirtual 309, 3) := by decide +kernel
theorem dX12_two_45 : decode cX12_two 45 = .ok (.ifCond .eq 17, 3) := by decide +kernel
theorem dX12_two_48 : decode cX12_two 48 = .ok (.iload_n 3, 1) := by decide +kernel
theorem dX12_two_49 : decode cX12_two 49 = .ok (.iconst 1, 1) := by decide +kernel
theorem dX12_two_50 : decode cX12_two 50 = .ok (.if_icmp .eq 15, 3) := by decide +kernel
theorem dX12_two_53 : decode cX12_two 53 = .ok (.aload_n 0, 1) := by decide +kernel
theorem dX12_two_54 : decode cX12_two 54 = .ok (.iload_n 1, 1) := by decide +kernel
theorem dX12_two_55 : decode cX12_two 55 = .ok (.iload_n 2, 1) := by decide +kernel
theorem dX12_two_56 : decode cX12_two 56 = .ok (.invokevirtual 315, 3) := by decide +kernel
theorem dX12_two_59 : decode cX12_two 59 = .ok (.ifCond .ne 6, 3) := by decide +kernel
theorem dX12_two_62 : decode cX12_two 62 = .ok (.bipush (-2), 2) := by decide +kernel
theorem dX12_two_64 : decode cX12_two 64 = .ok (.ireturn, 1) := by decide +kernel
theorem dX12_two_65 : decode cX12_two 65 = .ok (.iload_n 3, 1) := by decide +kernel
theorem dX12_two_66 : decode cX12_two 66 = .ok (.iconst 1, 1) := by decide +kernel
theorem dX12_two_67 : decode cX12_two 67 = .ok (.if_icmp .ne 12, 3) := by decide +kernel
theorem dX12_two_70 : decode cX12_two 70 = .ok (.aload_n 0, 1) := by decide +kernel
theorem dX12_two_71 : decode cX12_two 71 = .ok (.iload_n 1, 1) := by decide +kernel
theorem dX12_two_72 : decode cX12_two 72 = .ok (.iload_n 2, 1) := by decide +kernel
theorem dX12_two_73 : decode cX12_two 73 = .ok (.invokevirtual 318, 3) := by decide +kernel
theorem dX12_two_76 : decode cX12_two 76 = .ok (.goto 31, 3) := by decide +kernel
theorem dX12_two_79 : decode cX12_two 79 = .ok (.iload_n 3, 1) := by decide +kernel
theorem dX12_two_80 : decode cX12_two 80 = .ok (.iconst 2, 1) := by decide +kernel
theorem dX12_two_81 : decode cX12_two 81 = .ok (.if_icmp .ne 12, 3) := by decide +kernel
theorem dX12_two_84 : decode cX12_two 84 = .ok (.aload_n 0, 1) := by decide +kernel
theorem dX12_two_85 : decode cX12_two 85 = .ok (.iload_n 1, 1) := by decide +kernel
theorem dX12_two_86 : decode cX12_two 86 = .ok (.iload_n 2, 1) := by decide +kernel
theorem dX12_two_87 : decode cX12_two 87 = .ok (.invokevirtual 321, 3) := by decide +kernel
theorem dX12_two_90 : decode cX12_two 90 = .ok (.goto 17, 3) := by decide +kernel
theorem dX12_two_93 : decode cX12_two 93 = .ok (.aload_n 0, 1) := by decide +kernel
theorem dX12_two_94 : decode cX12_two 94 = .ok (.iload_n 1, 1) := by decide +kernel
theorem dX12_two_95 : decode cX12_two 95 = .ok (.iload_n 2, 1) := by decide +kernel
theorem dX12_two_96 : decode cX12_two 96 = .ok (.invokevirtual 324, 3) := by decide +kernel
theorem dX12_two_99 : decode cX12_two 99 = .ok (.ifCond .eq 7, 3) := by decide +kernel
theorem dX12_two_102 : decode cX12_two 102 = .ok (.iconst 1, 1) := by decide +kernel
theorem dX12_two_103 : decode cX12_two 103 = .ok (.goto 4, 3) := by decide +kernel
theorem dX12_two_106 : decode cX12_two 106 = .ok (.iconst 0, 1) := by decide +kernel
theorem dX12_two_107 : decode cX12_two 107 = .ok (.ireturn, 1) := by decide +kernel
theorem dX12_worth_0 : decode cX12_worth 0 = .ok (.aload_n 0, 1) := by decide +kernel
theorem dX12_worth_1 : decode cX12_worth 1 = .ok (.iload_n 1, 1) := by decide +kernel
theorem dX12_worth_2 : decode cX12_worth 2 = .ok (.invokevirtual 183, 3) := by decide +kernel
theorem dX12_worth_5 : decode cX12_worth 5 = .ok (.ifCond .eq 19, 3) := by decide +kernel
theorem dX12_worth_8 : decode cX12_worth 8 = .ok (.iload_n 2, 1) := by decide +kernel
theorem dX12_worth_9 : decode cX12_worth 9 = .ok (.invokestatic 175, 3) := by decide +kernel
theorem dX12_worth_12 : decode cX12_worth 12 = .ok (.ifCond .eq 12, 3) := by decide +kernel
theorem dX12_worth_15 : decode cX12_worth 15 = .ok (.aload_n 0, 1) := by decide +kernel
theorem dX12_worth_16 : decode cX12_worth 16 = .ok (.iload_n 1, 1) := by decide +kernel
theorem dX12_worth_17 : decode cX12_worth 17 = .ok (.iload_n 2, 1) := by decide +kernel
theorem dX12_worth_18 : decode cX12_worth 18 = .ok (.invokevirtual 327, 3) := by decide +kernel
theorem dX12_worth_21 : decode cX12_worth 21 = .ok (.goto 6, 3) := by decide +kernel
theorem dX12_worth_24 : decode cX12_worth 24 = .ok (.sipush (-1000), 3) := by decide +kernel
theorem dX12_worth_27 : decode cX12_worth 27 = .ok (.ireturn, 1) := by decide +kernel
theorem dX12_isMinute_0 : decode cX12_isMinute 0 = .ok (.iload_n 0, 1) := by decide +kernel
theorem dX12_isMinute_1 : decode cX12_isMinute 1 = .ok (.ifCond .lt 14, 3) := by decide +kernel
theorem dX12_isMinute_4 : decode cX12_isMinute 4 = .ok (.iload_n 0, 1) := by decide +kernel
theorem dX12_isMinute_5 : decode cX12_isMinute 5 = .ok (.sipush 999, 3) := by decide +kernel
theorem dX12_isMinute_8 : decode cX12_isMinute 8 = .ok (.if_icmp .gt 7, 3) := by decide +kernel
theorem dX12_isMinute_11 : decode cX12_isMinute 11 = .ok (.iconst 1, 1) := by decide +kernel
theorem dX12_isMinute_12 : decode cX12_isMinute 12 = .ok (.goto 4, 3) := by decide +kernel
theorem dX12_isMinute_15 : decode cX12_isMinute 15 = .ok (.iconst 0, 1) := by decide +kernel
theorem dX12_isMinute_16 : decode cX12_isMinute 16 = .ok (.ireturn, 1) := by decide +kernel
theorem dX12_isPlace_0 : decode cX12_isPlace 0 = .ok (.iload_n 0, 1) := by decide +kernel
theorem dX12_isPlace_1 : decode cX12_isPlace 1 = .ok (.ifCond .lt 13, 3) := by decide +kernel
theorem dX12_isPlace_4 : decode cX12_isPlace 4 = .ok (.iload_n 0, 1) := by decide +kernel
theorem dX12_isPlace_5 : decode cX12_isPlace 5 = .ok (.bipush 20, 2) := by decide +kernel
theorem dX12_isPlace_7 : decode cX12_isPlace 7 = .ok (.if_icmp .ge 7, 3) := by decide +kernel
theorem dX12_isPlace_10 : decode cX12_isPlace 10 = .ok (.iconst 1, 1) := by decide +kernel
theorem dX12_isPlace_11 : decode cX12_isPlace 11 = .ok (.goto 4, 3) := by decide +kernel
theorem dX12_isPlace_14 : decode cX12_isPlace 14 = .ok (.iconst 0, 1) := by decide +kernel
theorem dX12_isPlace_15 : decode cX12_isPlace 15 = .ok (.ireturn, 1) := by decide +kernel
theorem dX12_rain_0 : decode cX12_rain 0 = .ok (.iload_n 1, 1) := by decide +kernel
theorem dX12_rain_1 : decode cX12_rain 1 = .ok (.invokestatic 330, 3) := by decide +kernel
theorem dX12_rain_4 : decode cX12_rain 4 = .ok (.ifCond .eq 31, 3) := by decide +kernel
theorem dX12_rain_7 : decode cX12_rain 7 = .ok (.iload_n 2, 1) := by decide +kernel
theorem dX12_rain_8 : decode cX12_rain 8 = .ok (.invokestatic 333, 3) := by decide +kernel
theorem dX12_rain_11 : decode cX12_rain 11 = .ok (.ifCond .eq 24, 3) := by decide +kernel
theorem dX12_rain_14 : decode cX12_rain 14 = .ok (.iload_n 3, 1) := by decide +kernel
theorem dX12_rain_15 : decode cX12_rain 15 = .ok (.invokestatic 333, 3) := by decide +kernel
theorem dX12_rain_18 : decode cX12_rain 18 = .ok (.ifCond .eq 17, 3) := by decide +kernel
theorem dX12_rain_21 : decode cX12_rain 21 = .ok (.iload_n 3, 1) := by decide +kernel
theorem dX12_rain_22 : decode cX12_rain 22 = .ok (.iload_n 2, 1) := by decide +kernel
theorem dX12_rain_23 : decode cX12_rain 23 = .ok (.if_icmp .lt 12, 3) := by decide +kernel
theorem dX12_rain_26 : decode cX12_rain 26 = .ok (.aload_n 0, 1) := by decide +kernel
theorem dX12_rain_27 : decode cX12_rain 27 = .ok (.getfield 336, 3) := by decide +kernel
theorem dX12_rain_30 : decode cX12_rain 30 = .ok (.bipush 10, 2) := by decide +kernel
theorem dX12_rain_32 : decode cX12_rain 32 = .ok (.if_icmp .ne 5, 3) := by decide +kernel
theorem dX12_rain_35 : decode cX12_rain 35 = .ok (.iconst (-1), 1) := by decide +kernel
theorem dX12_rain_36 : decode cX12_rain 36 = .ok (.ireturn, 1) := by decide +kernel
theorem dX12_rain_37 : decode cX12_rain 37 = .ok (.aload_n 0, 1) := by decide +kernel
theorem dX12_rain_38 : decode cX12_rain 38 = .ok (.getfield 65, 3) := by decide +kernel
theorem dX12_rain_41 : decode cX12_rain 41 = .ok (.aload_n 0, 1) := by decide +kernel
theorem dX12_rain_42 : decode cX12_rain 42 = .ok (.getfield 336, 3) := by decide +kernel
theorem dX12_rain_45 : decode cX12_rain 45 = .ok (.iload_n 1, 1) := by decide +kernel
theorem dX12_rain_46 : decode cX12_rain 46 = .ok (.iastore, 1) := by decide +kernel
theorem dX12_rain_47 : decode cX12_rain 47 = .ok (.aload_n 0, 1) := by decide +kernel
theorem dX12_rain_48 : decode cX12_rain 48 = .ok (.getfield 68, 3) := by decide +kernel
theorem dX12_rain_51 : decode cX12_rain 51 = .ok (.aload_n 0, 1) := by decide +kernel
theorem dX12_rain_52 : decode cX12_rain 52 = .ok (.getfield 336, 3) := by decide +kernel
theorem dX12_rain_55 : decode cX12_rain 55 = .ok (.iload_n 2, 1) := by decide +kernel
theorem dX12_rain_56 : decode cX12_rain 56 = .ok (.iastore, 1) := by decide +kernel
theorem dX12_rain_57 : decode cX12_rain 57 = .ok (.aload_n 0, 1) := by decide +kernel
theorem dX12_rain_58 : decode cX12_rain 58 = .ok (.getfield 71, 3) := by decide +kernel
theorem dX12_rain_61 : decode cX12_rain 61 = .ok (.aload_n 0, 1) := by decide +kernel
theorem dX12_rain_62 : decode cX12_rain 62 = .ok (.getfield 336, 3) := by decide +kernel
theorem dX12_rain_65 : decode cX12_rain 65 = .ok (.iload_n 3, 1) := by decide +kernel
theorem dX12_rain_66 : decode cX12_rain 66 = .ok (.iastore, 1) := by decide +kernel
theorem dX12_rain_67 : decode cX12_rain 67 = .ok (.aload_n 0, 1) := by decide +kernel
theorem dX12_rain_68 : decode cX12_rain 68 = .ok (.aload_n 0, 1) := by decide +kernel
theorem dX12_rain_69 : decode cX12_rain 69 = .ok (.getfield 336, 3) := by decide +kernel
theorem dX12_rain_72 : decode cX12_rain 72 = .ok (.iconst 1, 1) := by decide +kernel
theorem dX12_rain_73 : decode cX12_rain 73 = .ok (.iadd, 1) := by decide +kernel
theorem dX12_rain_74 : decode cX12_rain 74 = .ok (.putfield 336, 3) := by decide +kernel
theorem dX12_rain_77 : decode cX12_rain 77 = .ok (.aload_n 0, 1) := by decide +kernel
theorem dX12_rain_78 : decode cX12_rain 78 = .ok (.getfield 336, 3) := by decide +kernel
theorem dX12_rain_81 : decode cX12_rain 81 = .ok (.ireturn, 1) := by decide +kernel
theorem dX12_isWet_0 : decode cX12_isWet 0 = .ok (.iconst 0, 1) := by decide +kernel
theorem dX12_isWet_1 : decode cX12_isWet 1 = .ok (.istore_n 3, 1) := by decide +kernel
theorem dX12_isWet_2 : decode cX12_isWet 2 = .ok (.iload_n 3, 1) := by decide +kernel
theorem dX12_isWet_3 : decode cX12_isWet 3 = .ok (.aload_n 0, 1) := by decide +kernel
theorem dX12_isWet_4 : decode cX12_isWet 4 = .ok (.getfield 336, 3) := by decide +kernel
theorem dX12_isWet_7 : decode cX12_isWet 7 = .ok (.if_icmp .ge 47, 3) := by decide +kernel
theorem dX12_isWet_10 : decode cX12_isWet 10 = .ok (.iload_n 2, 1) := by decide +kernel
theorem dX12_isWet_11 : decode cX12_isWet 11 = .ok (.aload_n 0, 1) := by decide +kernel
theorem dX12_isWet_12 : decode cX12_isWet 12 = .ok (.getfield 65, 3) := by decide +kernel
theorem dX12_isWet_15 : decode cX12_isWet 15 = .ok (.iload_n 3, 1) := by decide +kernel
theorem dX12_isWet_16 : decode cX12_isWet 16 = .ok (.iaload, 1) := by decide +kernel
theorem dX12_isWet_17 : decode cX12_isWet 17 = .ok (.if_icmp .lt 31, 3) := by decide +kernel
theorem dX12_isWet_20 : decode cX12_isWet 20 = .ok (.aload_n 0, 1) := by decide +kernel
theorem dX12_isWet_21 : decode cX12_isWet 21 = .ok (.getfield 13, 3) := by decide +kernel
theorem dX12_isWet_24 : decode cX12_isWet 24 = .ok (.iload_n 1, 1) := by decide +kernel
theorem dX12_isWet_25 : decode cX12_isWet 25 = .ok (.iaload, 1) := by decide +kernel
theorem dX12_isWet_26 : decode cX12_isWet 26 = .ok (.iconst 2, 1) := by decide +kernel
theorem dX12_isWet_27 : decode cX12_isWet 27 = .ok (.idiv, 1) := by decide +kernel
theorem dX12_isWet_28 : decode cX12_isWet 28 = .ok (.aload_n 0, 1) := by decide +kernel
theorem dX12_isWet_29 : decode cX12_isWet 29 = .ok (.getfield 68, 3) := by decide +kernel
theorem dX12_isWet_32 : decode cX12_isWet 32 = .ok (.iload_n 3, 1) := by decide +kernel
theorem dX12_isWet_33 : decode cX12_isWet 33 = .ok (.iaload, 1) := by decide +kernel
theorem dX12_isWet_34 : decode cX12_isWet 34 = .ok (.aload_n 0, 1) := by decide +kernel
theorem dX12_isWet_35 : decode cX12_isWet 35 = .ok (.getfield 71, 3) := by decide +kernel
theorem dX12_isWet_38 : decode cX12_isWet 38 = .ok (.iload_n 3, 1) := by decide +kernel
theorem dX12_isWet_39 : decode cX12_isWet 39 = .ok (.iaload, 1) := by decide +kernel
theorem dX12_isWet_40 : decode cX12_isWet 40 = .ok (.invokestatic 171, 3) := by decide +kernel
theorem dX12_isWet_43 : decode cX12_isWet 43 = .ok (.ifCond .eq 5, 3) := by decide +kernel
theorem dX12_isWet_46 : decode cX12_isWet 46 = .ok (.iconst 1, 1) := by decide +kernel
theorem dX12_isWet_47 : decode cX12_isWet 47 = .ok (.ireturn, 1) := by decide +kernel
theorem dX12_isWet_48 : decode cX12_isWet 48 = .ok (.iinc 3 1, 3) := by decide +kernel
theorem dX12_isWet_51 : decode cX12_isWet 51 = .ok (.goto (-49), 3) := by decide +kernel
theorem dX12_isWet_54 : decode cX12_isWet 54 = .ok (.iconst 0, 1) := by decide +kernel
theorem dX12_isWet_55 : decode cX12_isWet 55 = .ok (.ireturn, 1) := by decide +kernel
theorem dX12_laysPassing_0 : decode cX12_laysPassing 0 = .ok (.iconst 0, 1) := by decide +kernel
theorem dX12_laysPassing_1 : decode cX12_laysPassing 1 = .ok (.istore_n 3, 1) := by decide +kernel
theorem dX12_laysPassing_2 : decode cX12_laysPassing 2 = .ok (.iload_n 3, 1) := by decide +kernel
theorem dX12_laysPassing_3 : decode cX12_laysPassing 3 = .ok (.bipush 16, 2) := by decide +kernel
theorem dX12_laysPassing_5 : decode cX12_laysPassing 5 = .ok (.if_icmp .ge 25, 3) := by decide +kernel
theorem dX12_laysPassing_8 : decode cX12_laysPassing 8 = .ok (.aload_n 0, 1) := by decide +kernel
theorem dX12_laysPassing_9 : decode cX12_laysPassing 9 = .ok (.getfield 83, 3) := by decide +kernel
theorem dX12_laysPassing_12 : decode cX12_laysPassing 12 = .ok (.iload_n 3, 1) := by decide +kernel
theorem dX12_laysPassing_13 : decode cX12_laysPassing 13 = .ok (.ldc_w 339, 3) := by decide +kernel
theorem dX12_laysPassing_16 : decode cX12_laysPassing 16 = .ok (.iastore, 1) := by decide +kernel
theorem dX12_laysPassing_17 : decode cX12_laysPassing 17 = .ok (.aload_n 0, 1) := by decide +kernel
theorem dX12_laysPassing_18 : decode cX12_laysPassing 18 = .ok (.getfield 86, 3) := by decide +kernel
theorem dX12_laysPassing_21 : decode cX12_laysPassing 21 = .ok (.iload_n 3, 1) := by decide +kernel
theorem dX12_laysPassing_22 : decode cX12_laysPassing 22 = .ok (.iconst (-1), 1) := by decide +kernel
theorem dX12_laysPassing_23 : decode cX12_laysPassing 23 = .ok (.iastore, 1) := by decide +kernel
theorem dX12_laysPassing_24 : decode cX12_laysPassing 24 = .ok (.iinc 3 1, 3) := by decide +kernel
theorem dX12_laysPassing_27 : decode cX12_laysPassing 27 = .ok (.goto (-25), 3) := by decide +kernel
theorem dX12_laysPassing_30 : decode cX12_laysPassing 30 = .ok (.aload_n 0, 1) := by decide +kernel
theorem dX12_laysPassing_31 : decode cX12_laysPassing 31 = .ok (.getfield 83, 3) := by decide +kernel
theorem dX12_laysPassing_34 : decode cX12_laysPassing 34 = .ok (.iload_n 1, 1) := by decide +kernel
theorem dX12_laysPassing_35 : decode cX12_laysPassing 35 = .ok (.iload_n 2, 1) := by decide +kernel
theorem dX12_laysPassing_36 : decode cX12_laysPassing 36 = .ok (.iastore, 1) := by decide +kernel
theorem dX12_laysPassing_37 : decode cX12_laysPassing 37 = .ok (.iload_n 2, 1) := by decide +kernel
theorem dX12_laysPassing_38 : decode cX12_laysPassing 38 = .ok (.istore_n 3, 1) := by decide +kernel
theorem dX12_laysPassing_39 : decode cX12_laysPassing 39 = .ok (.iload_n 3, 1) := by decide +kernel
theorem dX12_laysPassing_40 : decode cX12_laysPassing 40 = .ok (.sipush 999, 3) := by decide +kernel
theorem dX12_laysPassing_43 : decode cX12_laysPassing 43 = .ok (.if_icmp .ge 136, 3) := by decide +kernel
theorem dX12_laysPassing_46 : decode cX12_laysPassing 46 = .ok (.iconst 0, 1) := by decide +kernel
theorem dX12_laysPassing_47 : decode cX12_laysPassing 47 = .ok (.istore 4, 2) := by decide +kernel
theorem dX12_laysPassing_49 : decode cX12_laysPassing 49 = .ok (.iload 4, 2) := by decide +kernel
theorem dX12_laysPassing_51 : decode cX12_laysPassing 51 = .ok (.aload_n 0, 1) := by decide +kernel
theorem dX12_laysPassing_52 : decode cX12_laysPassing 52 = .ok (.getfield 168, 3) := by decide +kernel
theorem dX12_laysPassing_55 : decode cX12_laysPassing 55 = .ok (.if_icmp .ge 118, 3) := by decide +kernel
theorem dX12_laysPassing_58 : decode cX12_laysPassing 58 = .ok (.aload_n 0, 1) := by decide +kernel
theorem dX12_laysPassing_59 : decode cX12_laysPassing 59 = .ok (.getfield 83, 3) := by decide +kernel
theorem dX12_laysPassing_62 : decode cX12_laysPassing 62 = .ok (.iload 4, 2) := by decide +kernel
theorem dX12_laysPassing_64 : decode cX12_laysPassing 64 = .ok (.iaload, 1) := by decide +kernel
theorem dX12_laysPassing_65 : decode cX12_laysPassing 65 = .ok (.iload_n 3, 1) := by decide +kernel
theorem dX12_laysPassing_66 : decode cX12_laysPassing 66 = .ok (.if_icmp .le 6, 3) := by decide +kernel
theorem dX12_laysPassing_69 : decode cX12_laysPassing 69 = .ok (.goto 98, 3) := by decide +kernel
theorem dX12_laysPassing_72 : decode cX12_laysPassing 72 = .ok (.iconst 0, 1) := by decide +kernel
theorem dX12_laysPassing_73 : decode cX12_laysPassing 73 = .ok (.istore 5, 2) := by decide +kernel
theorem dX12_laysPassing_75 : decode cX12_laysPassing 75 = .ok (.iload 5, 2) := by decide +kernel
theorem dX12_laysPassing_77 : decode cX12_laysPassing 77 = .ok (.aload_n 0, 1) := by decide +kernel
theorem dX12_laysPassing_78 : decode cX12_laysPassing 78 = .ok (.getfield 168, 3) := by decide +kernel
theorem dX12_laysPassing_81 : decode cX12_laysPassing 81 = .ok (.if_icmp .ge 86, 3) := by decide +kernel
theorem dX12_laysPassing_84 : decode cX12_laysPassing 84 = .ok (.aload_n 0, 1) := by decide +kernel
theorem dX12_laysPassing_85 : decode cX12_laysPassing 85 = .ok (.getfield 83, 3) := by decide +kernel
theorem dX12_laysPassing_88 : decode cX12_laysPassing 88 = .ok (.iload 5, 2) := by decide +kernel
theorem dX12_laysPassing_90 : decode cX12_laysPassing 90 = .ok (.iaload, 1) := by decide +kernel
theorem dX12_laysPassing_91 : decode cX12_laysPassing 91 = .ok (.ldc_w 339, 3) := by decide +kernel
theorem dX12_laysPassing_94 : decode cX12_laysPassing 94 = .ok (.if_icmp .lt 67, 3) := by decide +kernel
theorem dX12_laysPassing_97 : decode cX12_laysPassing 97 = .ok (.aload_n 0, 1) := by decide +kernel
theorem dX12_laysPassing_98 : decode cX12_laysPassing 98 = .ok (.iload 4, 2) := by decide +kernel
theorem dX12_laysPassing_100 : decode cX12_laysPassing 100 = .ok (.iload 5, 2) := by decide +kernel
theorem dX12_laysPassing_102 : decode cX12_laysPassing 102 = .ok (.invokevirtual 315, 3) := by decide +kernel
theorem dX12_laysPassing_105 : decode cX12_laysPassing 105 = .ok (.ifCond .eq 56, 3) := by decide +kernel
theorem dX12_laysPassing_108 : decode cX12_laysPassing 108 = .ok (.aload_n 0, 1) := by decide +kernel
theorem dX12_laysPassing_109 : decode cX12_laysPassing 109 = .ok (.iload 4, 2) := by decide +kernel
theorem dX12_laysPassing_111 : decode cX12_laysPassing 111 = .ok (.iload_n 3, 1) := by decide +kernel
theorem dX12_laysPassing_112 : decode cX12_laysPassing 112 = .ok (.invokevirtual 340, 3) := by decide +kernel
theorem dX12_laysPassing_115 : decode cX12_laysPassing 115 = .ok (.ifCond .ne 46, 3) := by decide +kernel
theorem dX12_laysPassing_118 : decode cX12_laysPassing 118 = .ok (.aload_n 0, 1) := by decide +kernel
theorem dX12_laysPassing_119 : decode cX12_laysPassing 119 = .ok (.iload 5, 2) := by decide +kernel
theorem dX12_laysPassing_121 : decode cX12_laysPassing 121 = .ok (.iload_n 3, 1) := by decide +kernel
theorem dX12_laysPassing_122 : decode cX12_laysPassing 122 = .ok (.invokevirtual 340, 3) := by decide +kernel
theorem dX12_laysPassing_125 : decode cX12_laysPassing 125 = .ok (.ifCond .ne 36, 3) := by decide +kernel
theorem dX12_laysPassing_128 : decode cX12_laysPassing 128 = .ok (.aload_n 0, 1) := by decide +kernel
theorem dX12_laysPassing_129 : decode cX12_laysPassing 129 = .ok (.iload 4, 2) := by decide +kernel
theorem dX12_laysPassing_131 : decode cX12_laysPassing 131 = .ok (.iload 5, 2) := by decide +kernel
theorem dX12_laysPassing_133 : decode cX12_laysPassing 133 = .ok (.invokevirtual 324, 3) := by decide +kernel
theorem dX12_laysPassing_136 : decode cX12_laysPassing 136 = .ok (.ifCond .ne 6, 3) := by decide +kernel
theorem dX12_laysPassing_139 : decode cX12_laysPassing 139 = .ok (.goto 22, 3) := by decide +kernel
theorem dX12_laysPassing_142 : decode cX12_laysPassing 142 = .ok (.aload_n 0, 1) := by decide +kernel
theorem dX12_laysPassing_143 : decode cX12_laysPassing 143 = .ok (.getfield 83, 3) := by decide +kernel
theorem dX12_laysPassing_146 : decode cX12_laysPassing 146 = .ok (.iload 5, 2) := by decide +kernel
theorem dX12_laysPassing_148 : decode cX12_laysPassing 148 = .ok (.iload_n 3, 1) := by decide +kernel
theorem dX12_laysPassing_149 : decode cX12_laysPassing 149 = .ok (.iconst 1, 1) := by decide +kernel
theorem dX12_laysPassing_150 : decode cX12_laysPassing 150 = .ok (.iadd, 1) := by decide +kernel
theorem dX12_laysPassing_151 : decode cX12_laysPassing 151 = .ok (.iastore, 1) := by decide +kernel
theorem dX12_laysPassing_152 : decode cX12_laysPassing 152 = .ok (.aload_n 0, 1) := by decide +kernel
theorem dX12_laysPassing_153 : decode cX12_laysPassing 153 = .ok (.getfield 86, 3) := by decide +kernel
theorem dX12_laysPassing_156 : decode cX12_laysPassing 156 = .ok (.iload 5, 2) := by decide +kernel
theorem dX12_laysPassing_158 : decode cX12_laysPassing 158 = .ok (.iload 4, 2) := by decide +kernel
theorem dX12_laysPassing_160 : decode cX12_laysPassing 160 = .ok (.iastore, 1) := by decide +kernel
theorem dX12_laysPassing_161 : decode cX12_laysPassing 161 = .ok (.iinc 5 1, 3) := by decide +kernel
theorem dX12_laysPassing_164 : decode cX12_laysPassing 164 = .ok (.goto (-89), 3) := by decide +kernel
theorem dX12_laysPassing_167 : decode cX12_laysPassing 167 = .ok (.iinc 4 1, 3) := by decide +kernel
theorem dX12_laysPassing_170 : decode cX12_laysPassing 170 = .ok (.goto (-121), 3) := by decide +kernel
theorem dX12_laysPassing_173 : decode cX12_laysPassing 173 = .ok (.iinc 3 1, 3) := by decide +kernel
theorem dX12_laysPassing_176 : decode cX12_laysPassing 176 = .ok (.goto (-137), 3) := by decide +kernel
theorem dX12_laysPassing_179 : decode cX12_laysPassing 179 = .ok (.return_, 1) := by decide +kernel
theorem dX12_starts_0 : decode cX12_starts 0 = .ok (.aload_n 0, 1) := by decide +kernel
theorem dX12_starts_1 : decode cX12_starts 1 = .ok (.iload_n 1, 1) := by decide +kernel
theorem dX12_starts_2 : decode cX12_starts 2 = .ok (.invokevirtual 183, 3) := by decide +kernel
theorem dX12_starts_5 : decode cX12_starts 5 = .ok (.ifCond .eq 25, 3) := by decide +kernel
theorem dX12_starts_8 : decode cX12_starts 8 = .ok (.aload_n 0, 1) := by decide +kernel
theorem dX12_starts_9 : decode cX12_starts 9 = .ok (.iload_n 1, 1) := by decide +kernel
theorem dX12_starts_10 : decode cX12_starts 10 = .ok (.invokevirtual 309, 3) := by decide +kernel
theorem dX12_starts_13 : decode cX12_starts 13 = .ok (.ifCond .eq 17, 3) := by decide +kernel
theorem dX12_starts_16 : decode cX12_starts 16 = .ok (.iload_n 2, 1) := by decide +kernel
theorem dX12_starts_17 : decode cX12_starts 17 = .ok (.iconst 0, 1) := by decide +kernel
theorem dX12_starts_18 : decode cX12_starts 18 = .ok (.bipush 99, 2) := by decide +kernel
theorem dX12_starts_20 : decode cX12_starts 20 = .ok (.invokestatic 171, 3) := by decide +kernel
theorem dX12_starts_23 : decode cX12_starts 23 = .ok (.ifCond .eq 7, 3) := by decide +kernel
theorem dX12_starts_26 : decode cX12_starts 26 = .ok (.iconst 1, 1) := by decide +kernel
theorem dX12_starts_27 : decode cX12_starts 27 = .ok (.goto 4, 3) := by decide +kernel
theorem dX12_starts_30 : decode cX12_starts 30 = .ok (.iconst 0, 1) := by decide +kernel
theorem dX12_starts_31 : decode cX12_starts 31 = .ok (.ireturn, 1) := by decide +kernel
theorem dX12_soonest_0 : decode cX12_soonest 0 = .ok (.aload_n 0, 1) := by decide +kernel
theorem dX12_soonest_1 : decode cX12_soonest 1 = .ok (.iload_n 1, 1) := by decide +kernel
theorem dX12_soonest_2 : decode cX12_soonest 2 = .ok (.iload_n 3, 1) := by decide +kernel
theorem dX12_soonest_3 : decode cX12_soonest 3 = .ok (.invokevirtual 343, 3) := by decide +kernel
theorem dX12_soonest_6 : decode cX12_soonest 6 = .ok (.ifCond .eq 19, 3) := by decide +kernel
theorem dX12_soonest_9 : decode cX12_soonest 9 = .ok (.aload_n 0, 1) := by decide +kernel
theorem dX12_soonest_10 : decode cX12_soonest 10 = .ok (.iload_n 2, 1) := by decide +kernel
theorem dX12_soonest_11 : decode cX12_soonest 11 = .ok (.invokevirtual 183, 3) := by decide +kernel
theorem dX12_soonest_14 : decode cX12_soonest 14 = .ok (.ifCond .eq 11, 3) := by decide +kernel
theorem dX12_soonest_17 : decode cX12_soonest 17 = .ok (.aload_n 0, 1) := by decide +kernel
theorem dX12_soonest_18 : decode cX12_soonest 18 = .ok (.iload_n 2, 1) := by decide +kernel
theorem dX12_soonest_19 : decode cX12_soonest 19 = .ok (.invokevirtual 309, 3) := by decide +kernel
theorem dX12_soonest_22 : decode cX12_soonest 22 = .ok (.ifCond .ne 5, 3) := by decide +kernel
theorem dX12_soonest_25 : decode cX12_soonest 25 = .ok (.iconst (-1), 1) := by decide +kernel
theorem dX12_soonest_26 : decode cX12_soonest 26 = .ok (.ireturn, 1) := by decide +kernel
theorem dX12_soonest_27 : decode cX12_soonest 27 = .ok (.aload_n 0, 1) := by decide +kernel
theorem dX12_soonest_28 : decode cX12_soonest 28 = .ok (.iload_n 1, 1) := by decide +kernel
theorem dX12_soonest_29 : decode cX12_soonest 29 = .ok (.iload_n 3, 1) := by decide +kernel
theorem dX12_soonest_30 : decode cX12_soonest 30 = .ok (.invokevirtual 346, 3) := by decide +kernel
theorem dX12_soonest_33 : decode cX12_soonest 33 = .ok (.aload_n 0, 1) := by decide +kernel
theorem dX12_soonest_34 : decode cX12_soonest 34 = .ok (.getfield 83, 3) := by decide +kernel
theorem dX12_soonest_37 : decode cX12_soonest 37 = .ok (.iload_n 2, 1) := by decide +kernel
theorem dX12_soonest_38 : decode cX12_soonest 38 = .ok (.iaload, 1) := by decide +kernel
theorem dX12_soonest_39 : decode cX12_soonest 39 = .ok (.ldc_w 339, 3) := by decide +kernel
theorem dX12_soonest_42 : decode cX12_soonest 42 = .ok (.if_icmp .ne 8, 3) := by decide +kernel
theorem dX12_soonest_45 : decode cX12_soonest 45 = .ok (.bipush (-2), 2) := by decide +kernel
theorem dX12_soonest_47 : decode cX12_soonest 47 = .ok (.goto 9, 3) := by decide +kernel
theorem dX12_soonest_50 : decode cX12_soonest 50 = .ok (.aload_n 0, 1) := by decide +kernel
theorem dX12_soonest_51 : decode cX12_soonest 51 = .ok (.getfield 83, 3) := by decide +kernel
theorem dX12_soonest_54 : decode cX12_soonest 54 = .ok (.iload_n 2, 1) := by decide +kernel
theorem dX12_soonest_55 : decode cX12_soonest 55 = .ok (.iaload, 1) := by decide +kernel
theorem dX12_soonest_56 : decode cX12_soonest 56 = .ok (.ireturn, 1) := by decide +kernel
theorem dX12_rumour_0 : decode cX12_rumour 0 = .ok (.aload_n 0, 1) := by decide +kernel
theorem dX12_rumour_1 : decode cX12_rumour 1 = .ok (.iload_n 1, 1) := by decide +kernel
theorem dX12_rumour_2 : decode cX12_rumour 2 = .ok (.iload_n 2, 1) := by decide +kernel
theorem dX12_rumour_3 : decode cX12_rumour 3 = .ok (.invokevirtual 343, 3) := by decide +kernel
theorem dX12_rumour_6 : decode cX12_rumour 6 = .ok (.ifCond .eq 23, 3) := by decide +kernel
theorem dX12_rumour_9 : decode cX12_rumour 9 = .ok (.iload_n 3, 1) := by decide +kernel
theorem dX12_rumour_10 : decode cX12_rumour 10 = .ok (.bipush 20, 2) := by decide +kernel
theorem dX12_rumour_12 : decode cX12_rumour 12 = .ok (.if_icmp .eq 20, 3) := by decide +kernel
theorem dX12_rumour_15 : decode cX12_rumour 15 = .ok (.iload_n 3, 1) := by decide +kernel
theorem dX12_rumour_16 : decode cX12_rumour 16 = .ok (.iconst (-1), 1) := by decide +kernel
theorem dX12_rumour_17 : decode cX12_rumour 17 = .ok (.aload_n 0, 1) := by decide +kernel
theorem dX12_rumour_18 : decode cX12_rumour 18 = .ok (.getfield 168, 3) := by decide +kernel
theorem dX12_rumour_21 : decode cX12_rumour 21 = .ok (.iconst 1, 1) := by decide +kernel
theorem dX12_rumour_22 : decode cX12_rumour 22 = .ok (.isub, 1) := by decide +kernel
theorem dX12_rumour_23 : decode cX12_rumour 23 = .ok (.invokestatic 171, 3) := by decide +kernel
theorem dX12_rumour_26 : decode cX12_rumour 26 = .ok (.ifCond .ne 6, 3) := by decide +kernel
theorem dX12_rumour_29 : decode cX12_rumour 29 = .ok (.bipush (-3), 2) := by decide +kernel
theorem dX12_rumour_31 : decode cX12_rumour 31 = .ok (.ireturn, 1) := by decide +kernel
theorem dX12_rumour_32 : decode cX12_rumour 32 = .ok (.aload_n 0, 1) := by decide +kernel
theorem dX12_rumour_33 : decode cX12_rumour 33 = .ok (.iload_n 1, 1) := by decide +kernel
theorem dX12_rumour_34 : decode cX12_rumour 34 = .ok (.iload_n 2, 1) := by decide +kernel
theorem dX12_rumour_35 : decode cX12_rumour 35 = .ok (.invokevirtual 346, 3) := by decide +kernel
theorem dX12_rumour_38 : decode cX12_rumour 38 = .ok (.iload_n 3, 1) := by decide +kernel
theorem dX12_rumour_39 : decode cX12_rumour 39 = .ok (.iconst 0, 1) := by decide +kernel
theorem dX12_rumour_40 : decode cX12_rumour 40 = .ok (.bipush 15, 2) := by decide +kernel
theorem dX12_rumour_42 : decode cX12_rumour 42 = .ok (.invokestatic 171, 3) := by decide +kernel
theorem dX12_rumour_45 : decode cX12_rumour 45 = .ok (.ifCond .eq 36, 3) := by decide +kernel
theorem dX12_rumour_48 : decode cX12_rumour 48 = .ok (.iload_n 3, 1) := by decide +kernel
theorem dX12_rumour_49 : decode cX12_rumour 49 = .ok (.iload_n 1, 1) := by decide +kernel
theorem dX12_rumour_50 : decode cX12_rumour 50 = .ok (.if_icmp .ne 7, 3) := by decide +kernel
theorem dX12_rumour_53 : decode cX12_rumour 53 = .ok (.iconst (-1), 1) := by decide +kernel
theorem dX12_rumour_54 : decode cX12_rumour 54 = .ok (.goto 26, 3) := by decide +kernel
theorem dX12_rumour_57 : decode cX12_rumour 57 = .ok (.aload_n 0, 1) := by decide +kernel
theorem dX12_rumour_58 : decode cX12_rumour 58 = .ok (.getfield 83, 3) := by decide +kernel
theorem dX12_rumour_61 : decode cX12_rumour 61 = .ok (.iload_n 3, 1) := by decide +kernel
theorem dX12_rumour_62 : decode cX12_rumour 62 = .ok (.iaload, 1) := by decide +kernel
theorem dX12_rumour_63 : decode cX12_rumour 63 = .ok (.ldc_w 339, 3) := by decide +kernel
theorem dX12_rumour_66 : decode cX12_rumour 66 = .ok (.if_icmp .ne 8, 3) := by decide +kernel
theorem dX12_rumour_69 : decode cX12_rumour 69 = .ok (.bipush (-2), 2) := by decide +kernel
theorem dX12_rumour_71 : decode cX12_rumour 71 = .ok (.goto 9, 3) := by decide +kernel
theorem dX12_rumour_74 : decode cX12_rumour 74 = .ok (.aload_n 0, 1) := by decide +kernel
theorem dX12_rumour_75 : decode cX12_rumour 75 = .ok (.getfield 86, 3) := by decide +kernel
theorem dX12_rumour_78 : decode cX12_rumour 78 = .ok (.iload_n 3, 1) := by decide +kernel
theorem dX12_rumour_79 : decode cX12_rumour 79 = .ok (.iaload, 1) := by decide +kernel
theorem dX12_rumour_80 : decode cX12_rumour 80 = .ok (.ireturn, 1) := by decide +kernel
theorem dX12_rumour_81 : decode cX12_rumour 81 = .ok (.iconst 0, 1) := by decide +kernel
theorem dX12_rumour_82 : decode cX12_rumour 82 = .ok (.istore 4, 2) := by decide +kernel
theorem dX12_rumour_84 : decode cX12_rumour 84 = .ok (.iconst 0, 1) := by decide +kernel
theorem dX12_rumour_85 : decode cX12_rumour 85 = .ok (.istore 5, 2) := by decide +kernel
theorem dX12_rumour_87 : decode cX12_rumour 87 = .ok (.iconst 0, 1) := by decide +kernel
theorem dX12_rumour_88 : decode cX12_rumour 88 = .ok (.istore 6, 2) := by decide +kernel
theorem dX12_rumour_90 : decode cX12_rumour 90 = .ok (.iload 6, 2) := by decide +kernel
theorem dX12_rumour_92 : decode cX12_rumour 92 = .ok (.aload_n 0, 1) := by decide +kernel
theorem dX12_rumour_93 : decode cX12_rumour 93 = .ok (.getfield 168, 3) := by decide +kernel
theorem dX12_rumour_96 : decode cX12_rumour 96 = .ok (.if_icmp .ge 57, 3) := by decide +kernel
theorem dX12_rumour_99 : decode cX12_rumour 99 = .ok (.aload_n 0, 1) := by decide +kernel
theorem dX12_rumour_100 : decode cX12_rumour 100 = .ok (.getfield 83, 3) := by decide +kernel
theorem dX12_rumour_103 : decode cX12_rumour 103 = .ok (.iload 6, 2) := by decide +kernel
theorem dX12_rumour_105 : decode cX12_rumour 105 = .ok (.iaload, 1) := by decide +kernel
theorem dX12_rumour_106 : decode cX12_rumour 106 = .ok (.ldc_w 339, 3) := by decide +kernel
theorem dX12_rumour_109 : decode cX12_rumour 109 = .ok (.if_icmp .ne 6, 3) := by decide +kernel
theorem dX12_rumour_112 : decode cX12_rumour 112 = .ok (.goto 35, 3) := by decide +kernel
theorem dX12_rumour_115 : decode cX12_rumour 115 = .ok (.iload 4, 2) := by decide +kernel
theorem dX12_rumour_117 : decode cX12_rumour 117 = .ok (.iconst 1, 1) := by decide +kernel
theorem dX12_rumour_118 : decode cX12_rumour 118 = .ok (.iadd, 1) := by decide +kernel
theorem dX12_rumour_119 : decode cX12_rumour 119 = .ok (.istore 4, 2) := by decide +kernel
theorem dX12_rumour_121 : decode cX12_rumour 121 = .ok (.aload_n 0, 1) := by decide +kernel
theorem dX12_rumour_122 : decode cX12_rumour 122 = .ok (.getfield 83, 3) := by decide +kernel
theorem dX12_rumour_125 : decode cX12_rumour 125 = .ok (.iload 6, 2) := by decide +kernel
theorem dX12_rumour_127 : decode cX12_rumour 127 = .ok (.iaload, 1) := by decide +kernel
theorem dX12_rumour_128 : decode cX12_rumour 128 = .ok (.iload 5, 2) := by decide +kernel
theorem dX12_rumour_130 : decode cX12_rumour 130 = .ok (.if_icmp .le 13, 3) := by decide +kernel
theorem dX12_rumour_133 : decode cX12_rumour 133 = .ok (.aload_n 0, 1) := by decide +kernel
theorem dX12_rumour_134 : decode cX12_rumour 134 = .ok (.getfield 83, 3) := by decide +kernel
theorem dX12_rumour_137 : decode cX12_rumour 137 = .ok (.iload 6, 2) := by decide +kernel
theorem dX12_rumour_139 : decode cX12_rumour 139 = .ok (.iaload, 1) := by decide +kernel
theorem dX12_rumour_140 : decode cX12_rumour 140 = .ok (.goto 5, 3) := by decide +kernel
theorem dX12_rumour_143 : decode cX12_rumour 143 = .ok (.iload 5, 2) := by decide +kernel
theorem dX12_rumour_145 : decode cX12_rumour 145 = .ok (.istore 5, 2) := by decide +kernel
theorem dX12_rumour_147 : decode cX12_rumour 147 = .ok (.iinc 6 1, 3) := by decide +kernel
theorem dX12_rumour_150 : decode cX12_rumour 150 = .ok (.goto (-60), 3) := by decide +kernel
theorem dX12_rumour_153 : decode cX12_rumour 153 = .ok (.iload_n 3, 1) := by decide +kernel
theorem dX12_rumour_154 : decode cX12_rumour 154 = .ok (.iconst (-1), 1) := by decide +kernel
theorem dX12_rumour_155 : decode cX12_rumour 155 = .ok (.if_icmp .ne 8, 3) := by decide +kernel
theorem dX12_rumour_158 : decode cX12_rumour 158 = .ok (.iload 4, 2) := by decide +kernel
theorem dX12_rumour_160 : decode cX12_rumour 160 = .ok (.goto 5, 3) := by decide +kernel
theorem dX12_rumour_163 : decode cX12_rumour 163 = .ok (.iload 5, 2) := by decide +kernel
theorem dX12_rumour_165 : decode cX12_rumour 165 = .ok (.ireturn, 1) := by decide +kernel
theorem dX12_speech_0 : decode cX12_speech 0 = .ok (.iload_n 1, 1) := by decide +kernel
theorem dX12_speech_1 : decode cX12_speech 1 = .ok (.invokestatic 333, 3) := by decide +kernel
theorem dX12_speech_4 : decode cX12_speech 4 = .ok (.ifCond .eq 28, 3) := by decide +kernel
theorem dX12_speech_7 : decode cX12_speech 7 = .ok (.iload_n 2, 1) := by decide +kernel
theorem dX12_speech_8 : decode cX12_speech 8 = .ok (.invokestatic 330, 3) := by decide +kernel
theorem dX12_speech_11 : decode cX12_speech 11 = .ok (.ifCond .eq 21, 3) := by decide +kernel
theorem dX12_speech_14 : decode cX12_speech 14 = .ok (.iload_n 3, 1) := by decide +kernel
theorem dX12_speech_15 : decode cX12_speech 15 = .ok (.iconst 1, 1) := by decide +kernel
theorem dX12_speech_16 : decode cX12_speech 16 = .ok (.iconst 5, 1) := by decide +kernel
theorem dX12_speech_17 : decode cX12_speech 17 = .ok (.invokestatic 171, 3) := by decide +kernel
theorem dX12_speech_20 : decode cX12_speech 20 = .ok (.ifCond .eq 12, 3) := by decide +kernel
theorem dX12_speech_23 : decode cX12_speech 23 = .ok (.aload_n 0, 1) := by decide +kernel
theorem dX12_speech_24 : decode cX12_speech 24 = .ok (.getfield 349, 3) := by decide +kernel
theorem dX12_speech_27 : decode cX12_speech 27 = .ok (.bipush 10, 2) := by decide +kernel
theorem dX12_speech_29 : decode cX12_speech 29 = .ok (.if_icmp .ne 5, 3) := by decide +kernel
theorem dX12_speech_32 : decode cX12_speech 32 = .ok (.iconst (-1), 1) := by decide +kernel
theorem dX12_speech_33 : decode cX12_speech 33 = .ok (.ireturn, 1) := by decide +kernel
theorem dX12_speech_34 : decode cX12_speech 34 = .ok (.aload_n 0, 1) := by decide +kernel
theorem dX12_speech_35 : decode cX12_speech 35 = .ok (.getfield 74, 3) := by decide +kernel
theorem dX12_speech_38 : decode cX12_speech 38 = .ok (.aload_n 0, 1) := by decide +kernel
theorem dX12_speech_39 : decode cX12_speech 39 = .ok (.getfield 349, 3) := by decide +kernel
theorem dX12_speech_42 : decode cX12_speech 42 = .ok (.iload_n 1, 1) := by decide +kernel
theorem dX12_speech_43 : decode cX12_speech 43 = .ok (.iastore, 1) := by decide +kernel
theorem dX12_speech_44 : decode cX12_speech 44 = .ok (.aload_n 0, 1) := by decide +kernel
theorem dX12_speech_45 : decode cX12_speech 45 = .ok (.getfield 77, 3) := by decide +kernel
theorem dX12_speech_48 : decode cX12_speech 48 = .ok (.aload_n 0, 1) := by decide +kernel
theorem dX12_speech_49 : decode cX12_speech 49 = .ok (.getfield 349, 3) := by decide +kernel
theorem dX12_speech_52 : decode cX12_speech 52 = .ok (.iload_n 2, 1) := by decide +kernel
theorem dX12_speech_53 : decode cX12_speech 53 = .ok (.iastore, 1) := by decide +kernel
theorem dX12_speech_54 : decode cX12_speech 54 = .ok (.aload_n 0, 1) := by decide +kernel
theorem dX12_speech_55 : decode cX12_speech 55 = .ok (.getfield 80, 3) := by decide +kernel
theorem dX12_speech_58 : decode cX12_speech 58 = .ok (.aload_n 0, 1) := by decide +kernel
theorem dX12_speech_59 : decode cX12_speech 59 = .ok (.getfield 349, 3) := by decide +kernel
theorem dX12_speech_62 : decode cX12_speech 62 = .ok (.iload_n 3, 1) := by decide +kernel
theorem dX12_speech_63 : decode cX12_speech 63 = .ok (.iastore, 1) := by decide +kernel
theorem dX12_speech_64 : decode cX12_speech 64 = .ok (.aload_n 0, 1) := by decide +kernel
theorem dX12_speech_65 : decode cX12_speech 65 = .ok (.aload_n 0, 1) := by decide +kernel
theorem dX12_speech_66 : decode cX12_speech 66 = .ok (.getfield 349, 3) := by decide +kernel
theorem dX12_speech_69 : decode cX12_speech 69 = .ok (.iconst 1, 1) := by decide +kernel
theorem dX12_speech_70 : decode cX12_speech 70 = .ok (.iadd, 1) := by decide +kernel
theorem dX12_speech_71 : decode cX12_speech 71 = .ok (.putfield 349, 3) := by decide +kernel
theorem dX12_speech_74 : decode cX12_speech 74 = .ok (.aload_n 0, 1) := by decide +kernel
theorem dX12_speech_75 : decode cX12_speech 75 = .ok (.getfield 349, 3) := by decide +kernel
theorem dX12_speech_78 : decode cX12_speech 78 = .ok (.ireturn, 1) := by decide +kernel
theorem dX12_heard_0 : decode cX12_heard 0 = .ok (.iload_n 1, 1) := by decide +kernel
theorem dX12_heard_1 : decode cX12_heard 1 = .ok (.invokestatic 175, 3) := by decide +kernel
theorem dX12_heard_4 : decode cX12_heard 4 = .ok (.ifCond .eq 10, 3) := by decide +kernel
theorem dX12_heard_7 : decode cX12_heard 7 = .ok (.iload_n 2, 1) := by decide +kernel
theorem dX12_heard_8 : decode cX12_heard 8 = .ok (.invokestatic 330, 3) := by decide +kernel
theorem dX12_heard_11 : decode cX12_heard 11 = .ok (.ifCond .ne 5, 3) := by decide +kernel
theorem dX12_heard_14 : decode cX12_heard 14 = .ok (.iconst (-1), 1) := by decide +kernel
theorem dX12_heard_15 : decode cX12_heard 15 = .ok (.ireturn, 1) := by decide +kernel
theorem dX12_heard_16 : decode cX12_heard 16 = .ok (.iconst 0, 1) := by decide +kernel
theorem dX12_heard_17 : decode cX12_heard 17 = .ok (.istore_n 3, 1) := by decide +kernel
theorem dX12_heard_18 : decode cX12_heard 18 = .ok (.iconst 0, 1) := by decide +kernel
theorem dX12_heard_19 : decode cX12_heard 19 = .ok (.istore 4, 2) := by decide +kernel
theorem dX12_heard_21 : decode cX12_heard 21 = .ok (.iload 4, 2) := by decide +kernel
theorem dX12_heard_23 : decode cX12_heard 23 = .ok (.aload_n 0, 1) := by decide +kernel
theorem dX12_heard_24 : decode cX12_heard 24 = .ok (.getfield 349, 3) := by decide +kernel
theorem dX12_heard_27 : decode cX12_heard 27 = .ok (.if_icmp .ge 50, 3) := by decide +kernel
theorem dX12_heard_30 : decode cX12_heard 30 = .ok (.iload_n 1, 1) := by decide +kernel
theorem dX12_heard_31 : decode cX12_heard 31 = .ok (.iconst 2, 1) := by decide +kernel
theorem dX12_heard_32 : decode cX12_heard 32 = .ok (.idiv, 1) := by decide +kernel
theorem dX12_heard_33 : decode cX12_heard 33 = .ok (.aload_n 0, 1) := by decide +kernel
theorem dX12_heard_34 : decode cX12_heard 34 = .ok (.getfield 74, 3) := by decide +kernel
theorem dX12_heard_37 : decode cX12_heard 37 = .ok (.iload 4, 2) := by decide +kernel
theorem dX12_heard_39 : decode cX12_heard 39 = .ok (.iaload, 1) := by decide +kernel
theorem dX12_heard_40 : decode cX12_heard 40 = .ok (.isub, 1) := by decide +kernel
theorem dX12_heard_41 : decode cX12_heard 41 = .ok (.invokestatic 297, 3) := by decide +kernel
theorem dX12_heard_44 : decode cX12_heard 44 = .ok (.aload_n 0, 1) := by decide +kernel
theorem dX12_heard_45 : decode cX12_heard 45 = .ok (.getfield 80, 3) := by decide +kernel
theorem dX12_heard_48 : decode cX12_heard 48 = .ok (.iload 4, 2) := by decide +kernel
theorem dX12_heard_50 : decode cX12_heard 50 = .ok (.iaload, 1) := by decide +kernel
theorem dX12_heard_51 : decode cX12_heard 51 = .ok (.iload_n 2, 1) := by decide +kernel
theorem dX12_heard_52 : decode cX12_heard 52 = .ok (.aload_n 0, 1) := by decide +kernel
theorem dX12_heard_53 : decode cX12_heard 53 = .ok (.getfield 77, 3) := by decide +kernel
theorem dX12_heard_56 : decode cX12_heard 56 = .ok (.iload 4, 2) := by decide +kernel
theorem dX12_heard_58 : decode cX12_heard 58 = .ok (.iaload, 1) := by decide +kernel
theorem dX12_heard_59 : decode cX12_heard 59 = .ok (.isub, 1) := by decide +kernel
theorem dX12_heard_60 : decode cX12_heard 60 = .ok (.imul, 1) := by decide +kernel
theorem dX12_heard_61 : decode cX12_heard 61 = .ok (.if_icmp .gt 10, 3) := by decide +kernel
theorem dX12_heard_64 : decode cX12_heard 64 = .ok (.iload_n 3, 1) := by decide +kernel
theorem dX12_heard_65 : decode cX12_heard 65 = .ok (.iconst 1, 1) := by decide +kernel
theorem dX12_heard_66 : decode cX12_heard 66 = .ok (.iload 4, 2) := by decide +kernel
theorem dX12_heard_68 : decode cX12_heard 68 = .ok (.ishl, 1) := by decide +kernel
theorem dX12_heard_69 : decode cX12_heard 69 = .ok (.ior, 1) := by decide +kernel
theorem dX12_heard_70 : decode cX12_heard 70 = .ok (.istore_n 3, 1) := by decide +kernel
theorem dX12_heard_71 : decode cX12_heard 71 = .ok (.iinc 4 1, 3) := by decide +kernel
theorem dX12_heard_74 : decode cX12_heard 74 = .ok (.goto (-53), 3) := by decide +kernel
theorem dX12_heard_77 : decode cX12_heard 77 = .ok (.iload_n 3, 1) := by decide +kernel
theorem dX12_heard_78 : decode cX12_heard 78 = .ok (.ireturn, 1) := by decide +kernel
theorem dX12_walks_0 : decode cX12_walks 0 = .ok (.iload 4, 2) := by decide +kernel
theorem dX12_walks_2 : decode cX12_walks 2 = .ok (.istore 5, 2) := by decide +kernel
theorem dX12_walks_4 : decode cX12_walks 4 = .ok (.iconst 1, 1) := by decide +kernel
theorem dX12_walks_5 : decode cX12_walks 5 = .ok (.iload_n 1, 1) := by decide +kernel
theorem dX12_walks_6 : decode cX12_walks 6 = .ok (.ishl, 1) := by decide +kernel
theorem dX12_walks_7 : decode cX12_walks 7 = .ok (.istore 6, 2) := by decide +kernel
theorem dX12_walks_9 : decode cX12_walks 9 = .ok (.aload_n 0, 1) := by decide +kernel
theorem dX12_walks_10 : decode cX12_walks 10 = .ok (.getfield 89, 3) := by decide +kernel
theorem dX12_walks_13 : decode cX12_walks 13 = .ok (.iconst 0, 1) := by decide +kernel
theorem dX12_walks_14 : decode cX12_walks 14 = .ok (.iload_n 1, 1) := by decide +kernel
theorem dX12_walks_15 : decode cX12_walks 15 = .ok (.iastore, 1) := by decide +kernel
theorem dX12_walks_16 : decode cX12_walks 16 = .ok (.aload_n 0, 1) := by decide +kernel
theorem dX12_walks_17 : decode cX12_walks 17 = .ok (.iload_n 3, 1) := by decide +kernel
theorem dX12_walks_18 : decode cX12_walks 18 = .ok (.putfield 352, 3) := by decide +kernel
theorem dX12_walks_21 : decode cX12_walks 21 = .ok (.aload_n 0, 1) := by decide +kernel
theorem dX12_walks_22 : decode cX12_walks 22 = .ok (.lconst 1, 1) := by decide +kernel
theorem dX12_walks_23 : decode cX12_walks 23 = .ok (.putfield 355, 3) := by decide +kernel
theorem dX12_walks_26 : decode cX12_walks 26 = .ok (.iconst 0, 1) := by decide +kernel
theorem dX12_walks_27 : decode cX12_walks 27 = .ok (.istore 7, 2) := by decide +kernel
theorem dX12_walks_29 : decode cX12_walks 29 = .ok (.iload 7, 2) := by decide +kernel
theorem dX12_walks_31 : decode cX12_walks 31 = .ok (.bipush 6, 2) := by decide +kernel
theorem dX12_walks_33 : decode cX12_walks 33 = .ok (.if_icmp .ge 168, 3) := by decide +kernel
theorem dX12_walks_36 : decode cX12_walks 36 = .ok (.iload 7, 2) := by decide +kernel
theorem dX12_walks_38 : decode cX12_walks 38 = .ok (.iload_n 3, 1) := by decide +kernel
theorem dX12_walks_39 : decode cX12_walks 39 = .ok (.if_icmp .lt 18, 3) := by decide +kernel
theorem dX12_walks_42 : decode cX12_walks 42 = .ok (.aload_n 0, 1) := by decide +kernel
theorem dX12_walks_43 : decode cX12_walks 43 = .ok (.aload_n 0, 1) := by decide +kernel
theorem dX12_walks_44 : decode cX12_walks 44 = .ok (.getfield 355, 3) := by decide +kernel
theorem dX12_walks_47 : decode cX12_walks 47 = .ok (.ldc2_w 359, 3) := by decide +kernel
theorem dX12_walks_50 : decode cX12_walks 50 = .ok (.lmul, 1) := by decide +kernel
theorem dX12_walks_51 : decode cX12_walks 51 = .ok (.putfield 355, 3) := by decide +kernel
theorem dX12_walks_54 : decode cX12_walks 54 = .ok (.goto 141, 3) := by decide +kernel
theorem dX12_walks_57 : decode cX12_walks 57 = .ok (.aload_n 0, 1) := by decide +kernel
theorem dX12_walks_58 : decode cX12_walks 58 = .ok (.getfield 13, 3) := by decide +kernel
theorem dX12_walks_61 : decode cX12_walks 61 = .ok (.aload_n 0, 1) := by decide +kernel
theorem dX12_walks_62 : decode cX12_walks 62 = .ok (.getfield 89, 3) := by decide +kernel
theorem dX12_walks_65 : decode cX12_walks 65 = .ok (.iload 7, 2) := by decide +kernel
theorem dX12_walks_67 : decode cX12_walks 67 = .ok (.iaload, 1) := by decide +kernel
theorem dX12_walks_68 : decode cX12_walks 68 = .ok (.iaload, 1) := by decide +kernel
theorem dX12_walks_69 : decode cX12_walks 69 = .ok (.iload 5, 2) := by decide +kernel
theorem dX12_walks_71 : decode cX12_walks 71 = .ok (.iconst 3, 1) := by decide +kernel
theorem dX12_walks_72 : decode cX12_walks 72 = .ok (.irem, 1) := by decide +kernel
theorem dX12_walks_73 : decode cX12_walks 73 = .ok (.invokestatic 306, 3) := by decide +kernel
theorem dX12_walks_76 : decode cX12_walks 76 = .ok (.istore 8, 2) := by decide +kernel
theorem dX12_walks_78 : decode cX12_walks 78 = .ok (.iload 5, 2) := by decide +kernel
theorem dX12_walks_80 : decode cX12_walks 80 = .ok (.iconst 3, 1) := by decide +kernel
theorem dX12_walks_81 : decode cX12_walks 81 = .ok (.idiv, 1) := by decide +kernel
theorem dX12_walks_82 : decode cX12_walks 82 = .ok (.istore 5, 2) := by decide +kernel
theorem dX12_walks_84 : decode cX12_walks 84 = .ok (.iload 8, 2) := by decide +kernel
theorem dX12_walks_86 : decode cX12_walks 86 = .ok (.iconst (-1), 1) := by decide +kernel
theorem dX12_walks_87 : decode cX12_walks 87 = .ok (.if_icmp .ne 7, 3) := by decide +kernel
theorem dX12_walks_90 : decode cX12_walks 90 = .ok (.iconst (-1), 1) := by decide +kernel
theorem dX12_walks_91 : decode cX12_walks 91 = .ok (.goto 9, 3) := by decide +kernel
theorem dX12_walks_94 : decode cX12_walks 94 = .ok (.aload_n 0, 1) := by decide +kernel
theorem dX12_walks_95 : decode cX12_walks 95 = .ok (.iload 8, 2) := by decide +kernel
theorem dX12_walks_97 : decode cX12_walks 97 = .ok (.invokevirtual 179, 3) := by decide +kernel
theorem dX12_walks_100 : decode cX12_walks 100 = .ok (.istore 9, 2) := by decide +kernel
theorem dX12_walks_102 : decode cX12_walks 102 = .ok (.iload 9, 2) := by decide +kernel
theorem dX12_walks_104 : decode cX12_walks 104 = .ok (.iconst (-1), 1) := by decide +kernel
theorem dX12_walks_105 : decode cX12_walks 105 = .ok (.if_icmp .eq 41, 3) := by decide +kernel
theorem dX12_walks_108 : decode cX12_walks 108 = .ok (.iload 6, 2) := by decide +kernel
theorem dX12_walks_110 : decode cX12_walks 110 = .ok (.iload 9, 2) := by decide +kernel
theorem dX12_walks_112 : decode cX12_walks 112 = .ok (.ishr, 1) := by decide +kernel
theorem dX12_walks_113 : decode cX12_walks 113 = .ok (.iconst 1, 1) := by decide +kernel
theorem dX12_walks_114 : decode cX12_walks 114 = .ok (.iand, 1) := by decide +kernel
theorem dX12_walks_115 : decode cX12_walks 115 = .ok (.iconst 1, 1) := by decide +kernel
theorem dX12_walks_116 : decode cX12_walks 116 = .ok (.if_icmp .eq 30, 3) := by decide +kernel
theorem dX12_walks_119 : decode cX12_walks 119 = .ok (.iload 9, 2) := by decide +kernel
theorem dX12_walks_121 : decode cX12_walks 121 = .ok (.iload_n 2, 1) := by decide +kernel
theorem dX12_walks_122 : decode cX12_walks 122 = .ok (.if_icmp .ne 7, 3) := by decide +kernel
theorem dX12_walks_125 : decode cX12_walks 125 = .ok (.iconst 1, 1) := by decide +kernel
theorem dX12_walks_126 : decode cX12_walks 126 = .ok (.goto 4, 3) := by decide +kernel
theorem dX12_walks_129 : decode cX12_walks 129 = .ok (.iconst 0, 1) := by decide +kernel
theorem dX12_walks_130 : decode cX12_walks 130 = .ok (.iload 7, 2) := by decide +kernel
theorem dX12_walks_132 : decode cX12_walks 132 = .ok (.iload_n 3, 1) := by decide +kernel
theorem dX12_walks_133 : decode cX12_walks 133 = .ok (.iconst 1, 1) := by decide +kernel
theorem dX12_walks_134 : decode cX12_walks 134 = .ok (.isub, 1) := by decide +kernel
theorem dX12_walks_135 : decode cX12_walks 135 = .ok (.if_icmp .ne 7, 3) := by decide +kernel
theorem dX12_walks_138 : decode cX12_walks 138 = .ok (.iconst 1, 1) := by decide +kernel
theorem dX12_walks_139 : decode cX12_walks 139 = .ok (.goto 4, 3) := by decide +kernel
theorem dX12_walks_142 : decode cX12_walks 142 = .ok (.iconst 0, 1) := by decide +kernel
theorem dX12_walks_143 : decode cX12_walks 143 = .ok (.if_icmp .eq 5, 3) := by decide +kernel
theorem dX12_walks_146 : decode cX12_walks 146 = .ok (.iconst 0, 1) := by decide +kernel
theorem dX12_walks_147 : decode cX12_walks 147 = .ok (.ireturn, 1) := by decide +kernel
theorem dX12_walks_148 : decode cX12_walks 148 = .ok (.iload 6, 2) := by decide +kernel
theorem dX12_walks_150 : decode cX12_walks 150 = .ok (.iconst 1, 1) := by decide +kernel
theorem dX12_walks_151 : decode cX12_walks 151 = .ok (.iload 9, 2) := by decide +kernel
theorem dX12_walks_153 : decode cX12_walks 153 = .ok (.ishl, 1) := by decide +kernel
theorem dX12_walks_154 : decode cX12_walks 154 = .ok (.ior, 1) := by decide +kernel
theorem dX12_walks_155 : decode cX12_walks 155 = .ok (.istore 6, 2) := by decide +kernel
theorem dX12_walks_157 : decode cX12_walks 157 = .ok (.aload_n 0, 1) := by decide +kernel
theorem dX12_walks_158 : decode cX12_walks 158 = .ok (.aload_n 0, 1) := by decide +kernel
theorem dX12_walks_159 : decode cX12_walks 159 = .ok (.getfield 355, 3) := by decide +kernel
theorem dX12_walks_162 : decode cX12_walks 162 = .ok (.sipush 1000, 3) := by decide +kernel
theorem dX12_walks_165 : decode cX12_walks 165 = .ok (.aload_n 0, 1) := by decide +kernel
theorem dX12_walks_166 : decode cX12_walks 166 = .ok (.aload_n 0, 1) := by decide +kernel
theorem dX12_walks_167 : decode cX12_walks 167 = .ok (.getfield 89, 3) := by decide +kernel
theorem dX12_walks_170 : decode cX12_walks 170 = .ok (.iload 7, 2) := by decide +kernel
theorem dX12_walks_172 : decode cX12_walks 172 = .ok (.iaload, 1) := by decide +kernel
theorem dX12_walks_173 : decode cX12_walks 173 = .ok (.iload 9, 2) := by decide +kernel
theorem dX12_walks_175 : decode cX12_walks 175 = .ok (.invokevirtual 321, 3) := by decide +kernel
theorem dX12_walks_178 : decode cX12_walks 178 = .ok (.isub, 1) := by decide +kernel
theorem dX12_walks_179 : decode cX12_walks 179 = .ok (.i2l, 1) := by decide +kernel
theorem dX12_walks_180 : decode cX12_walks 180 = .ok (.lmul, 1) := by decide +kernel
theorem dX12_walks_181 : decode cX12_walks 181 = .ok (.putfield 355, 3) := by decide +kernel
theorem dX12_walks_184 : decode cX12_walks 184 = .ok (.aload_n 0, 1) := by decide +kernel
theorem dX12_walks_185 : decode cX12_walks 185 = .ok (.getfield 89, 3) := by decide +kernel
theorem dX12_walks_188 : decode cX12_walks 188 = .ok (.iload 7, 2) := by decide +kernel
theorem dX12_walks_190 : decode cX12_walks 190 = .ok (.iconst 1, 1) := by decide +kernel
theorem dX12_walks_191 : decode cX12_walks 191 = .ok (.iadd, 1) := by decide +kernel
theorem dX12_walks_192 : decode cX12_walks 192 = .ok (.iload 9, 2) := by decide +kernel
theorem dX12_walks_194 : decode cX12_walks 194 = .ok (.iastore, 1) := by decide +kernel
theorem dX12_walks_195 : decode cX12_walks 195 = .ok (.iinc 7 1, 3) := by decide +kernel
theorem dX12_walks_198 : decode cX12_walks 198 = .ok (.goto (-169), 3) := by decide +kernel
theorem dX12_walks_201 : decode cX12_walks 201 = .ok (.iconst 1, 1) := by decide +kernel
theorem dX12_walks_202 : decode cX12_walks 202 = .ok (.ireturn, 1) := by decide +kernel
theorem dX12_isBetter_0 : decode cX12_isBetter 0 = .ok (.aload_n 0, 1) := by decide +kernel
theorem dX12_isBetter_1 : decode cX12_isBetter 1 = .ok (.getfield 361, 3) := by decide +kernel
theorem dX12_isBetter_4 : decode cX12_isBetter 4 = .ok (.ifCond .eq 15, 3) := by decide +kernel
theorem dX12_isBetter_7 : decode cX12_isBetter 7 = .ok (.aload_n 0, 1) := by decide +kernel
theorem dX12_isBetter_8 : decode cX12_isBetter 8 = .ok (.getfield 355, 3) := by decide +kernel
theorem dX12_isBetter_11 : decode cX12_isBetter 11 = .ok (.aload_n 0, 1) := by decide +kernel
theorem dX12_isBetter_12 : decode cX12_isBetter 12 = .ok (.getfield 364, 3) := by decide +kernel
theorem dX12_isBetter_15 : decode cX12_isBetter 15 = .ok (.lcmp, 1) := by decide +kernel
theorem dX12_isBetter_16 : decode cX12_isBetter 16 = .ok (.ifCond .eq 28, 3) := by decide +kernel
theorem dX12_isBetter_19 : decode cX12_isBetter 19 = .ok (.aload_n 0, 1) := by decide +kernel
theorem dX12_isBetter_20 : decode cX12_isBetter 20 = .ok (.getfield 361, 3) := by decide +kernel
theorem dX12_isBetter_23 : decode cX12_isBetter 23 = .ok (.ifCond .eq 15, 3) := by decide +kernel
theorem dX12_isBetter_26 : decode cX12_isBetter 26 = .ok (.aload_n 0, 1) := by decide +kernel
theorem dX12_isBetter_27 : decode cX12_isBetter 27 = .ok (.getfield 355, 3) := by decide +kernel
theorem dX12_isBetter_30 : decode cX12_isBetter 30 = .ok (.aload_n 0, 1) := by decide +kernel
theorem dX12_isBetter_31 : decode cX12_isBetter 31 = .ok (.getfield 364, 3) := by decide +kernel
theorem dX12_isBetter_34 : decode cX12_isBetter 34 = .ok (.lcmp, 1) := by decide +kernel
theorem dX12_isBetter_35 : decode cX12_isBetter 35 = .ok (.ifCond .le 7, 3) := by decide +kernel
theorem dX12_isBetter_38 : decode cX12_isBetter 38 = .ok (.iconst 1, 1) := by decide +kernel
theorem dX12_isBetter_39 : decode cX12_isBetter 39 = .ok (.goto 4, 3) := by decide +kernel
theorem dX12_isBetter_42 : decode cX12_isBetter 42 = .ok (.iconst 0, 1) := by decide +kernel
theorem dX12_isBetter_43 : decode cX12_isBetter 43 = .ok (.ireturn, 1) := by decide +kernel
theorem dX12_isBetter_44 : decode cX12_isBetter 44 = .ok (.aload_n 0, 1) := by decide +kernel
theorem dX12_isBetter_45 : decode cX12_isBetter 45 = .ok (.getfield 352, 3) := by decide +kernel
theorem dX12_isBetter_48 : decode cX12_isBetter 48 = .ok (.aload_n 0, 1) := by decide +kernel
theorem dX12_isBetter_49 : decode cX12_isBetter 49 = .ok (.getfield 361, 3) := by decide +kernel
theorem dX12_isBetter_52 : decode cX12_isBetter 52 = .ok (.if_icmp .eq 20, 3) := by decide +kernel
theorem dX12_isBetter_55 : decode cX12_isBetter 55 = .ok (.aload_n 0, 1) := by decide +kernel
theorem dX12_isBetter_56 : decode cX12_isBetter 56 = .ok (.getfield 352, 3) := by decide +kernel
theorem dX12_isBetter_59 : decode cX12_isBetter 59 = .ok (.aload_n 0, 1) := by decide +kernel
theorem dX12_isBetter_60 : decode cX12_isBetter 60 = .ok (.getfield 361, 3) := by decide +kernel
theorem dX12_isBetter_63 : decode cX12_isBetter 63 = .ok (.if_icmp .ge 7, 3) := by decide +kernel
theorem dX12_isBetter_66 : decode cX12_isBetter 66 = .ok (.iconst 1, 1) := by decide +kernel
theorem dX12_isBetter_67 : decode cX12_isBetter 67 = .ok (.goto 4, 3) := by decide +kernel
theorem dX12_isBetter_70 : decode cX12_isBetter 70 = .ok (.iconst 0, 1) := by decide +kernel
theorem dX12_isBetter_71 : decode cX12_isBetter 71 = .ok (.ireturn, 1) := by decide +kernel
theorem dX12_isBetter_72 : decode cX12_isBetter 72 = .ok (.iconst 0, 1) := by decide +kernel
theorem dX12_isBetter_73 : decode cX12_isBetter 73 = .ok (.istore_n 1, 1) := by decide +kernel
theorem dX12_isBetter_74 : decode cX12_isBetter 74 = .ok (.iload_n 1, 1) := by decide +kernel
theorem dX12_isBetter_75 : decode cX12_isBetter 75 = .ok (.aload_n 0, 1) := by decide +kernel
theorem dX12_isBetter_76 : decode cX12_isBetter 76 = .ok (.getfield 352, 3) := by decide +kernel
theorem dX12_isBetter_79 : decode cX12_isBetter 79 = .ok (.if_icmp .gt 45, 3) := by decide +kernel
theorem dX12_isBetter_82 : decode cX12_isBetter 82 = .ok (.aload_n 0, 1) := by decide +kernel
theorem dX12_isBetter_83 : decode cX12_isBetter 83 = .ok (.getfield 89, 3) := by decide +kernel
theorem dX12_isBetter_86 : decode cX12_isBetter 86 = .ok (.iload_n 1, 1) := by decide +kernel
theorem dX12_isBetter_87 : decode cX12_isBetter 87 = .ok (.iaload, 1) := by decide +kernel
theorem dX12_isBetter_88 : decode cX12_isBetter 88 = .ok (.aload_n 0, 1) := by decide +kernel
theorem dX12_isBetter_89 : decode cX12_isBetter 89 = .ok (.getfield 92, 3) := by decide +kernel
theorem dX12_isBetter_92 : decode cX12_isBetter 92 = .ok (.iload_n 1, 1) := by decide +kernel
theorem dX12_isBetter_93 : decode cX12_isBetter 93 = .ok (.iaload, 1) := by decide +kernel
theorem dX12_isBetter_94 : decode cX12_isBetter 94 = .ok (.if_icmp .eq 24, 3) := by decide +kernel
theorem dX12_isBetter_97 : decode cX12_isBetter 97 = .ok (.aload_n 0, 1) := by decide +kernel
theorem dX12_isBetter_98 : decode cX12_isBetter 98 = .ok (.getfield 89, 3) := by decide +kernel
theorem dX12_isBetter_101 : decode cX12_isBetter 101 = .ok (.iload_n 1, 1) := by decide +kernel
theorem dX12_isBetter_102 : decode cX12_isBetter 102 = .ok (.iaload, 1) := by decide +kernel
theorem dX12_isBetter_103 : decode cX12_isBetter 103 = .ok (.aload_n 0, 1) := by decide +kernel
theorem dX12_isBetter_104 : decode cX12_isBetter 104 = .ok (.getfield 92, 3) := by decide +kernel
theorem dX12_isBetter_107 : decode cX12_isBetter 107 = .ok (.iload_n 1, 1) := by decide +kernel
theorem dX12_isBetter_108 : decode cX12_isBetter 108 = .ok (.iaload, 1) := by decide +kernel
theorem dX12_isBetter_109 : decode cX12_isBetter 109 = .ok (.if_icmp .ge 7, 3) := by decide +kernel
theorem dX12_isBetter_112 : decode cX12_isBetter 112 = .ok (.iconst 1, 1) := by decide +kernel
theorem dX12_isBetter_113 : decode cX12_isBetter 113 = .ok (.goto 4, 3) := by decide +kernel
theorem dX12_isBetter_116 : decode cX12_isBetter 116 = .ok (.iconst 0, 1) := by decide +kernel
theorem dX12_isBetter_117 : decode cX12_isBetter 117 = .ok (.ireturn, 1) := by decide +kernel
theorem dX12_isBetter_118 : decode cX12_isBetter 118 = .ok (.iinc 1 1, 3) := by decide +kernel
theorem dX12_isBetter_121 : decode cX12_isBetter 121 = .ok (.goto (-47), 3) := by decide +kernel
theorem dX12_isBetter_124 : decode cX12_isBetter 124 = .ok (.iconst 0, 1) := by decide +kernel
theorem dX12_isBetter_125 : decode cX12_isBetter 125 = .ok (.ireturn, 1) := by decide +kernel
theorem dX12_laysSmuggled_0 : decode cX12_laysSmuggled 0 = .ok (.aload_n 0, 1) := by decide +kernel
theorem dX12_laysSmuggled_1 : decode cX12_laysSmuggled 1 = .ok (.iconst 0, 1) := by decide +kernel
theorem dX12_laysSmuggled_2 : decode cX12_laysSmuggled 2 = .ok (.putfield 361, 3) := by decide +kernel
theorem dX12_laysSmuggled_5 : decode cX12_laysSmuggled 5 = .ok (.iconst 1, 1) := by decide +kernel
theorem dX12_laysSmuggled_6 : decode cX12_laysSmuggled 6 = .ok (.istore_n 3, 1) := by decide +kernel
theorem dX12_laysSmuggled_7 : decode cX12_laysSmuggled 7 = .ok (.iconst 1, 1) := by decide +kernel
theorem dX12_laysSmuggled_8 : decode cX12_laysSmuggled 8 = .ok (.istore 4, 2) := by decide +kernel
theorem dX12_laysSmuggled_10 : decode cX12_laysSmuggled 10 = .ok (.iload 4, 2) := by decide +kernel
theorem dX12_laysSmuggled_12 : decode cX12_laysSmuggled 12 = .ok (.bipush 7, 2) := by decide +kernel
theorem dX12_laysSmuggled_14 : decode cX12_laysSmuggled 14 = .ok (.if_icmp .ge 99, 3) := by decide +kernel
theorem dX12_laysSmuggled_17 : decode cX12_laysSmuggled 17 = .ok (.iconst 3, 1) := by decide +kernel
theorem dX12_laysSmuggled_18 : decode cX12_laysSmuggled 18 = .ok (.iload_n 3, 1) := by decide +kernel
theorem dX12_laysSmuggled_19 : decode cX12_laysSmuggled 19 = .ok (.imul, 1) := by decide +kernel
theorem dX12_laysSmuggled_20 : decode cX12_laysSmuggled 20 = .ok (.istore_n 3, 1) := by decide +kernel
theorem dX12_laysSmuggled_21 : decode cX12_laysSmuggled 21 = .ok (.iconst 0, 1) := by decide +kernel
theorem dX12_laysSmuggled_22 : decode cX12_laysSmuggled 22 = .ok (.istore 5, 2) := by decide +kernel
theorem dX12_laysSmuggled_24 : decode cX12_laysSmuggled 24 = .ok (.iload 5, 2) := by decide +kernel
theorem dX12_laysSmuggled_26 : decode cX12_laysSmuggled 26 = .ok (.iload_n 3, 1) := by decide +kernel
theorem dX12_laysSmuggled_27 : decode cX12_laysSmuggled 27 = .ok (.if_icmp .ge 80, 3) := by decide +kernel
theorem dX12_laysSmuggled_30 : decode cX12_laysSmuggled 30 = .ok (.aload_n 0, 1) := by decide +kernel
theorem dX12_laysSmuggled_31 : decode cX12_laysSmuggled 31 = .ok (.iload_n 1, 1) := by decide +kernel
theorem dX12_laysSmuggled_32 : decode cX12_laysSmuggled 32 = .ok (.iload_n 2, 1) := by decide +kernel
theorem dX12_laysSmuggled_33 : decode cX12_laysSmuggled 33 = .ok (.iload 4, 2) := by decide +kernel
theorem dX12_laysSmuggled_35 : decode cX12_laysSmuggled 35 = .ok (.iload 5, 2) := by decide +kernel
theorem dX12_laysSmuggled_37 : decode cX12_laysSmuggled 37 = .ok (.invokevirtual 367, 3) := by decide +kernel
theorem dX12_laysSmuggled_40 : decode cX12_laysSmuggled 40 = .ok (.ifCond .eq 61, 3) := by decide +kernel
theorem dX12_laysSmuggled_43 : decode cX12_laysSmuggled 43 = .ok (.aload_n 0, 1) := by decide +kernel
theorem dX12_laysSmuggled_44 : decode cX12_laysSmuggled 44 = .ok (.invokevirtual 371, 3) := by decide +kernel
theorem dX12_laysSmuggled_47 : decode cX12_laysSmuggled 47 = .ok (.ifCond .ne 6, 3) := by decide +kernel
theorem dX12_laysSmuggled_50 : decode cX12_laysSmuggled 50 = .ok (.goto 51, 3) := by decide +kernel
theorem dX12_laysSmuggled_53 : decode cX12_laysSmuggled 53 = .ok (.aload_n 0, 1) := by decide +kernel
theorem dX12_laysSmuggled_54 : decode cX12_laysSmuggled 54 = .ok (.aload_n 0, 1) := by decide +kernel
theorem dX12_laysSmuggled_55 : decode cX12_laysSmuggled 55 = .ok (.getfield 352, 3) := by decide +kernel
theorem dX12_laysSmuggled_58 : decode cX12_laysSmuggled 58 = .ok (.putfield 361, 3) := by decide +kernel
theorem dX12_laysSmuggled_61 : decode cX12_laysSmuggled 61 = .ok (.aload_n 0, 1) := by decide +kernel
theorem dX12_laysSmuggled_62 : decode cX12_laysSmuggled 62 = .ok (.aload_n 0, 1) := by decide +kernel
theorem dX12_laysSmuggled_63 : decode cX12_laysSmuggled 63 = .ok (.getfield 355, 3) := by decide +kernel
theorem dX12_laysSmuggled_66 : decode cX12_laysSmuggled 66 = .ok (.putfield 364, 3) := by decide +kernel
theorem dX12_laysSmuggled_69 : decode cX12_laysSmuggled 69 = .ok (.iconst 0, 1) := by decide +kernel
theorem dX12_laysSmuggled_70 : decode cX12_laysSmuggled 70 = .ok (.istore 6, 2) := by decide +kernel
theorem dX12_laysSmuggled_72 : decode cX12_laysSmuggled 72 = .ok (.iload 6, 2) := by decide +kernel
theorem dX12_laysSmuggled_74 : decode cX12_laysSmuggled 74 = .ok (.aload_n 0, 1) := by decide +kernel
theorem dX12_laysSmuggled_75 : decode cX12_laysSmuggled 75 = .ok (.getfield 352, 3) := by decide +kernel
theorem dX12_laysSmuggled_78 : decode cX12_laysSmuggled 78 = .ok (.if_icmp .gt 23, 3) := by decide +kernel
theorem dX12_laysSmuggled_81 : decode cX12_laysSmuggled 81 = .ok (.aload_n 0, 1) := by decide +kernel
theorem dX12_laysSmuggled_82 : decode cX12_laysSmuggled 82 = .ok (.getfield 92, 3) := by decide +kernel
theorem dX12_laysSmuggled_85 : decode cX12_laysSmuggled 85 = .ok (.iload 6, 2) := by decide +kernel
theorem dX12_laysSmuggled_87 : decode cX12_laysSmuggled 87 = .ok (.aload_n 0, 1) := by decide +kernel
theorem dX12_laysSmuggled_88 : decode cX12_laysSmuggled 88 = .ok (.getfield 89, 3) := by decide +kernel
theorem dX12_laysSmuggled_91 : decode cX12_laysSmuggled 91 = .ok (.iload 6, 2) := by decide +kernel
theorem dX12_laysSmuggled_93 : decode cX12_laysSmuggled 93 = .ok (.iaload, 1) := by decide +kernel
theorem dX12_laysSmuggled_94 : decode cX12_laysSmuggled 94 = .ok (.iastore, 1) := by decide +kernel
theorem dX12_laysSmuggled_95 : decode cX12_laysSmuggled 95 = .ok (.iinc 6 1, 3) := by decide +kernel
theorem dX12_laysSmuggled_98 : decode cX12_laysSmuggled 98 = .ok (.goto (-26), 3) := by decide +kernel
theorem dX12_laysSmuggled_101 : decode cX12_laysSmuggled 101 = .ok (.iinc 5 1, 3) := by decide +kernel
theorem dX12_laysSmuggled_104 : decode cX12_laysSmuggled 104 = .ok (.goto (-80), 3) := by decide +kernel
theorem dX12_laysSmuggled_107 : decode cX12_laysSmuggled 107 = .ok (.iinc 4 1, 3) := by decide +kernel
theorem dX12_laysSmuggled_110 : decode cX12_laysSmuggled 110 = .ok (.goto (-100), 3) := by decide +kernel
theorem dX12_laysSmuggled_113 : decode cX12_laysSmuggled 113 = .ok (.return_, 1) := by decide +kernel
theorem dX12_gcd_0 : decode cX12_gcd 0 = .ok (.lload_n 0, 1) := by decide +kernel
theorem dX12_gcd_1 : decode cX12_gcd 1 = .ok (.lstore 4, 2) := by decide +kernel
theorem dX12_gcd_3 : decode cX12_gcd 3 = .ok (.lload_n 2, 1) := by decide +kernel
theorem dX12_gcd_4 : decode cX12_gcd 4 = .ok (.lstore 6, 2) := by decide +kernel
theorem dX12_gcd_6 : decode cX12_gcd 6 = .ok (.lload 6, 2) := by decide +kernel
theorem dX12_gcd_8 : decode cX12_gcd 8 = .ok (.lconst 0, 1) := by decide +kernel
theorem dX12_gcd_9 : decode cX12_gcd 9 = .ok (.lcmp, 1) := by decide +kernel
theorem dX12_gcd_10 : decode cX12_gcd 10 = .ok (.ifCond .eq 21, 3) := by decide +kernel
theorem dX12_gcd_13 : decode cX12_gcd 13 = .ok (.lload 4, 2) := by decide +kernel
theorem dX12_gcd_15 : decode cX12_gcd 15 = .ok (.lload 6, 2) := by decide +kernel
theorem dX12_gcd_17 : decode cX12_gcd 17 = .ok (.lrem, 1) := by decide +kernel
theorem dX12_gcd_18 : decode cX12_gcd 18 = .ok (.lstore 8, 2) := by decide +kernel
theorem dX12_gcd_20 : decode cX12_gcd 20 = .ok (.lload 6, 2) := by decide +kernel
theorem dX12_gcd_22 : decode cX12_gcd 22 = .ok (.lstore 4, 2) := by decide +kernel
theorem dX12_gcd_24 : decode cX12_gcd 24 = .ok (.lload 8, 2) := by decide +kernel
theorem dX12_gcd_26 : decode cX12_gcd 26 = .ok (.lstore 6, 2) := by decide +kernel
theorem dX12_gcd_28 : decode cX12_gcd 28 = .ok (.goto (-22), 3) := by decide +kernel
theorem dX12_gcd_31 : decode cX12_gcd 31 = .ok (.lload 4, 2) := by decide +kernel
theorem dX12_gcd_33 : decode cX12_gcd 33 = .ok (.lreturn, 1) := by decide +kernel
theorem dX12_smuggled_0 : decode cX12_smuggled 0 = .ok (.aload_n 0, 1) := by decide +kernel
theorem dX12_smuggled_1 : decode cX12_smuggled 1 = .ok (.iload_n 1, 1) := by decide +kernel
theorem dX12_smuggled_2 : decode cX12_smuggled 2 = .ok (.invokevirtual 183, 3) := by decide +kernel
theorem dX12_smuggled_5 : decode cX12_smuggled 5 = .ok (.ifCond .eq 52, 3) := by decide +kernel
theorem dX12_smuggled_8 : decode cX12_smuggled 8 = .ok (.aload_n 0, 1) := by decide +kernel
theorem dX12_smuggled_9 : decode cX12_smuggled 9 = .ok (.iload_n 2, 1) := by decide +kernel
theorem dX12_smuggled_10 : decode cX12_smuggled 10 = .ok (.invokevirtual 183, 3) := by decide +kernel
theorem dX12_smuggled_13 : decode cX12_smuggled 13 = .ok (.ifCond .eq 44, 3) := by decide +kernel
theorem dX12_smuggled_16 : decode cX12_smuggled 16 = .ok (.iload_n 1, 1) := by decide +kernel
theorem dX12_smuggled_17 : decode cX12_smuggled 17 = .ok (.iload_n 2, 1) := by decide +kernel
theorem dX12_smuggled_18 : decode cX12_smuggled 18 = .ok (.if_icmp .eq 39, 3) := by decide +kernel
theorem dX12_smuggled_21 : decode cX12_smuggled 21 = .ok (.aload_n 0, 1) := by decide +kernel
theorem dX12_smuggled_22 : decode cX12_smuggled 22 = .ok (.iload_n 1, 1) := by decide +kernel
theorem dX12_smuggled_23 : decode cX12_smuggled 23 = .ok (.invokevirtual 309, 3) := by decide +kernel
theorem dX12_smuggled_26 : decode cX12_smuggled 26 = .ok (.ifCond .eq 31, 3) := by decide +kernel
theorem dX12_smuggled_29 : decode cX12_smuggled 29 = .ok (.aload_n 0, 1) := by decide +kernel
theorem dX12_smuggled_30 : decode cX12_smuggled 30 = .ok (.iload_n 2, 1) := by decide +kernel
theorem dX12_smuggled_31 : decode cX12_smuggled 31 = .ok (.invokevirtual 309, 3) := by decide +kernel
theorem dX12_smuggled_34 : decode cX12_smuggled 34 = .ok (.ifCond .eq 23, 3) := by decide +kernel
theorem dX12_smuggled_37 : decode cX12_smuggled 37 = .ok (.iload_n 3, 1) := by decide +kernel
theorem dX12_smuggled_38 : decode cX12_smuggled 38 = .ok (.iconst 0, 1) := by decide +kernel
theorem dX12_smuggled_39 : decode cX12_smuggled 39 = .ok (.iconst 2, 1) := by decide +kernel
theorem dX12_smuggled_40 : decode cX12_smuggled 40 = .ok (.invokestatic 171, 3) := by decide +kernel
theorem dX12_smuggled_43 : decode cX12_smuggled 43 = .ok (.ifCond .ne 18, 3) := by decide +kernel
theorem dX12_smuggled_46 : decode cX12_smuggled 46 = .ok (.iload_n 3, 1) := by decide +kernel
theorem dX12_smuggled_47 : decode cX12_smuggled 47 = .ok (.bipush 10, 2) := by decide +kernel
theorem dX12_smuggled_49 : decode cX12_smuggled 49 = .ok (.bipush 16, 2) := by decide +kernel
theorem dX12_smuggled_51 : decode cX12_smuggled 51 = .ok (.invokestatic 171, 3) := by decide +kernel
theorem dX12_smuggled_54 : decode cX12_smuggled 54 = .ok (.ifCond .ne 7, 3) := by decide +kernel
theorem dX12_smuggled_57 : decode cX12_smuggled 57 = .ok (.ldc2_w 374, 3) := by decide +kernel
theorem dX12_smuggled_60 : decode cX12_smuggled 60 = .ok (.lreturn, 1) := by decide +kernel
theorem dX12_smuggled_61 : decode cX12_smuggled 61 = .ok (.aload_n 0, 1) := by decide +kernel
theorem dX12_smuggled_62 : decode cX12_smuggled 62 = .ok (.iload_n 1, 1) := by decide +kernel
theorem dX12_smuggled_63 : decode cX12_smuggled 63 = .ok (.iload_n 2, 1) := by decide +kernel
theorem dX12_smuggled_64 : decode cX12_smuggled 64 = .ok (.invokevirtual 376, 3) := by decide +kernel
theorem dX12_smuggled_67 : decode cX12_smuggled 67 = .ok (.aload_n 0, 1) := by decide +kernel
theorem dX12_smuggled_68 : decode cX12_smuggled 68 = .ok (.getfield 361, 3) := by decide +kernel
theorem dX12_smuggled_71 : decode cX12_smuggled 71 = .ok (.ifCond .ne 7, 3) := by decide +kernel
theorem dX12_smuggled_74 : decode cX12_smuggled 74 = .ok (.ldc2_w 379, 3) := by decide +kernel
theorem dX12_smuggled_77 : decode cX12_smuggled 77 = .ok (.lreturn, 1) := by decide +kernel
theorem dX12_smuggled_78 : decode cX12_smuggled 78 = .ok (.iload_n 3, 1) := by decide +kernel
theorem dX12_smuggled_79 : decode cX12_smuggled 79 = .ok (.iconst 2, 1) := by decide +kernel
theorem dX12_smuggled_80 : decode cX12_smuggled 80 = .ok (.if_icmp .ne 9, 3) := by decide +kernel
theorem dX12_smuggled_83 : decode cX12_smuggled 83 = .ok (.aload_n 0, 1) := by decide +kernel
theorem dX12_smuggled_84 : decode cX12_smuggled 84 = .ok (.getfield 361, 3) := by decide +kernel
theorem dX12_smuggled_87 : decode cX12_smuggled 87 = .ok (.i2l, 1) := by decide +kernel
theorem dX12_smuggled_88 : decode cX12_smuggled 88 = .ok (.lreturn, 1) := by decide +kernel
theorem dX12_smuggled_89 : decode cX12_smuggled 89 = .ok (.iload_n 3, 1) := by decide +kernel
theorem dX12_smuggled_90 : decode cX12_smuggled 90 = .ok (.iconst 2, 1) := by decide +kernel
theorem dX12_smuggled_91 : decode cX12_smuggled 91 = .ok (.if_icmp .le 31, 3) := by decide +kernel
theorem dX12_smuggled_94 : decode cX12_smuggled 94 = .ok (.iload_n 3, 1) := by decide +kernel
theorem dX12_smuggled_95 : decode cX12_smuggled 95 = .ok (.bipush 10, 2) := by decide +kernel
theorem dX12_smuggled_97 : decode cX12_smuggled 97 = .ok (.isub, 1) := by decide +kernel
theorem dX12_smuggled_98 : decode cX12_smuggled 98 = .ok (.aload_n 0, 1) := by decide +kernel
theorem dX12_smuggled_99 : decode cX12_smuggled 99 = .ok (.getfield 361, 3) := by decide +kernel
theorem dX12_smuggled_102 : decode cX12_smuggled 102 = .ok (.if_icmp .gt 16, 3) := by decide +kernel
theorem dX12_smuggled_105 : decode cX12_smuggled 105 = .ok (.aload_n 0, 1) := by decide +kernel
theorem dX12_smuggled_106 : decode cX12_smuggled 106 = .ok (.getfield 92, 3) := by decide +kernel
theorem dX12_smuggled_109 : decode cX12_smuggled 109 = .ok (.iload_n 3, 1) := by decide +kernel
theorem dX12_smuggled_110 : decode cX12_smuggled 110 = .ok (.bipush 10, 2) := by decide +kernel
theorem dX12_smuggled_112 : decode cX12_smuggled 112 = .ok (.isub, 1) := by decide +kernel
theorem dX12_smuggled_113 : decode cX12_smuggled 113 = .ok (.iaload, 1) := by decide +kernel
theorem dX12_smuggled_114 : decode cX12_smuggled 114 = .ok (.i2l, 1) := by decide +kernel
theorem dX12_smuggled_115 : decode cX12_smuggled 115 = .ok (.goto 6, 3) := by decide +kernel
theorem dX12_smuggled_118 : decode cX12_smuggled 118 = .ok (.ldc2_w 374, 3) := by decide +kernel
theorem dX12_smuggled_121 : decode cX12_smuggled 121 = .ok (.lreturn, 1) := by decide +kernel
theorem dX12_smuggled_122 : decode cX12_smuggled 122 = .ok (.ldc2_w 381, 3) := by decide +kernel
theorem dX12_smuggled_125 : decode cX12_smuggled 125 = .ok (.lstore 4, 2) := by decide +kernel
theorem dX12_smuggled_127 : decode cX12_smuggled 127 = .ok (.aload_n 0, 1) := by decide +kernel
theorem dX12_smuggled_128 : decode cX12_smuggled 128 = .ok (.getfield 364, 3) := by decide +kernel
theorem dX12_smuggled_131 : decode cX12_smuggled 131 = .ok (.lload 4, 2) := by decide +kernel
theorem dX12_smuggled_133 : decode cX12_smuggled 133 = .ok (.invokestatic 383, 3) := by decide +kernel
theorem dX12_smuggled_136 : decode cX12_smuggled 136 = .ok (.lstore 6, 2) := by decide +kernel
theorem dX12_smuggled_138 : decode cX12_smuggled 138 = .ok (.iload_n 3, 1) := by decide +kernel
theorem dX12_smuggled_139 : decode cX12_smuggled 139 = .ok (.ifCond .ne 13, 3) := by decide +kernel
theorem dX12_smuggled_142 : decode cX12_smuggled 142 = .ok (.aload_n 0, 1) := by decide +kernel
theorem dX12_smuggled_143 : decode cX12_smuggled 143 = .ok (.getfield 364, 3) := by decide +kernel
theorem dX12_smuggled_146 : decode cX12_smuggled 146 = .ok (.lload 6, 2) := by decide +kernel
theorem dX12_smuggled_148 : decode cX12_smuggled 148 = .ok (.ldiv, 1) := by decide +kernel
theorem dX12_smuggled_149 : decode cX12_smuggled 149 = .ok (.goto 8, 3) := by decide +kernel
theorem dX12_smuggled_152 : decode cX12_smuggled 152 = .ok (.lload 4, 2) := by decide +kernel
theorem dX12_smuggled_154 : decode cX12_smuggled 154 = .ok (.lload 6, 2) := by decide +kernel
theorem dX12_smuggled_156 : decode cX12_smuggled 156 = .ok (.ldiv, 1) := by decide +kernel
theorem dX12_smuggled_157 : decode cX12_smuggled 157 = .ok (.lreturn, 1) := by decide +kernel
theorem dX12_sumOf_0 : decode cX12_sumOf 0 = .ok (.iconst 0, 1) := by decide +kernel
theorem dX12_sumOf_1 : decode cX12_sumOf 1 = .ok (.istore_n 1, 1) := by decide +kernel
theorem dX12_sumOf_2 : decode cX12_sumOf 2 = .ok (.iconst 0, 1) := by decide +kernel
theorem dX12_sumOf_3 : decode cX12_sumOf 3 = .ok (.istore_n 2, 1) := by decide +kernel
theorem dX12_sumOf_4 : decode cX12_sumOf 4 = .ok (.iload_n 2, 1) := by decide +kernel
theorem dX12_sumOf_5 : decode cX12_sumOf 5 = .ok (.aload_n 0, 1) := by decide +kernel
theorem dX12_sumOf_6 : decode cX12_sumOf 6 = .ok (.getfield 168, 3) := by decide +kernel
theorem dX12_sumOf_9 : decode cX12_sumOf 9 = .ok (.if_icmp .ge 93, 3) := by decide +kernel
theorem dX12_sumOf_12 : decode cX12_sumOf 12 = .ok (.aload_n 0, 1) := by decide +kernel
theorem dX12_sumOf_13 : decode cX12_sumOf 13 = .ok (.iload_n 2, 1) := by decide +kernel
theorem dX12_sumOf_14 : decode cX12_sumOf 14 = .ok (.invokevirtual 309, 3) := by decide +kernel
theorem dX12_sumOf_17 : decode cX12_sumOf 17 = .ok (.ifCond .ne 6, 3) := by decide +kernel
theorem dX12_sumOf_20 : decode cX12_sumOf 20 = .ok (.goto 76, 3) := by decide +kernel
theorem dX12_sumOf_23 : decode cX12_sumOf 23 = .ok (.iload_n 1, 1) := by decide +kernel
theorem dX12_sumOf_24 : decode cX12_sumOf 24 = .ok (.aload_n 0, 1) := by decide +kernel
theorem dX12_sumOf_25 : decode cX12_sumOf 25 = .ok (.iload_n 2, 1) := by decide +kernel
theorem dX12_sumOf_26 : decode cX12_sumOf 26 = .ok (.aload_n 0, 1) := by decide +kernel
theorem dX12_sumOf_27 : decode cX12_sumOf 27 = .ok (.getfield 13, 3) := by decide +kernel
theorem dX12_sumOf_30 : decode cX12_sumOf 30 = .ok (.iload_n 2, 1) := by decide +kernel
theorem dX12_sumOf_31 : decode cX12_sumOf 31 = .ok (.iaload, 1) := by decide +kernel
theorem dX12_sumOf_32 : decode cX12_sumOf 32 = .ok (.invokevirtual 327, 3) := by decide +kernel
theorem dX12_sumOf_35 : decode cX12_sumOf 35 = .ok (.isub, 1) := by decide +kernel
theorem dX12_sumOf_36 : decode cX12_sumOf 36 = .ok (.istore_n 1, 1) := by decide +kernel
theorem dX12_sumOf_37 : decode cX12_sumOf 37 = .ok (.iload_n 2, 1) := by decide +kernel
theorem dX12_sumOf_38 : decode cX12_sumOf 38 = .ok (.iconst 1, 1) := by decide +kernel
theorem dX12_sumOf_39 : decode cX12_sumOf 39 = .ok (.iadd, 1) := by decide +kernel
theorem dX12_sumOf_40 : decode cX12_sumOf 40 = .ok (.istore_n 3, 1) := by decide +kernel
theorem dX12_sumOf_41 : decode cX12_sumOf 41 = .ok (.iload_n 3, 1) := by decide +kernel
theorem dX12_sumOf_42 : decode cX12_sumOf 42 = .ok (.aload_n 0, 1) := by decide +kernel
theorem dX12_sumOf_43 : decode cX12_sumOf 43 = .ok (.getfield 168, 3) := by decide +kernel
theorem dX12_sumOf_46 : decode cX12_sumOf 46 = .ok (.if_icmp .ge 50, 3) := by decide +kernel
theorem dX12_sumOf_49 : decode cX12_sumOf 49 = .ok (.aload_n 0, 1) := by decide +kernel
theorem dX12_sumOf_50 : decode cX12_sumOf 50 = .ok (.iload_n 3, 1) := by decide +kernel
theorem dX12_sumOf_51 : decode cX12_sumOf 51 = .ok (.invokevirtual 309, 3) := by decide +kernel
theorem dX12_sumOf_54 : decode cX12_sumOf 54 = .ok (.ifCond .eq 36, 3) := by decide +kernel
theorem dX12_sumOf_57 : decode cX12_sumOf 57 = .ok (.aload_n 0, 1) := by decide +kernel
theorem dX12_sumOf_58 : decode cX12_sumOf 58 = .ok (.getfield 13, 3) := by decide +kernel
theorem dX12_sumOf_61 : decode cX12_sumOf 61 = .ok (.iload_n 2, 1) := by decide +kernel
theorem dX12_sumOf_62 : decode cX12_sumOf 62 = .ok (.iaload, 1) := by decide +kernel
theorem dX12_sumOf_63 : decode cX12_sumOf 63 = .ok (.iconst 2, 1) := by decide +kernel
theorem dX12_sumOf_64 : decode cX12_sumOf 64 = .ok (.idiv, 1) := by decide +kernel
theorem dX12_sumOf_65 : decode cX12_sumOf 65 = .ok (.aload_n 0, 1) := by decide +kernel
theorem dX12_sumOf_66 : decode cX12_sumOf 66 = .ok (.getfield 13, 3) := by decide +kernel
theorem dX12_sumOf_69 : decode cX12_sumOf 69 = .ok (.iload_n 3, 1) := by decide +kernel
theorem dX12_sumOf_70 : decode cX12_sumOf 70 = .ok (.iaload, 1) := by decide +kernel
theorem dX12_sumOf_71 : decode cX12_sumOf 71 = .ok (.iconst 2, 1) := by decide +kernel
theorem dX12_sumOf_72 : decode cX12_sumOf 72 = .ok (.idiv, 1) := by decide +kernel
theorem dX12_sumOf_73 : decode cX12_sumOf 73 = .ok (.isub, 1) := by decide +kernel
theorem dX12_sumOf_74 : decode cX12_sumOf 74 = .ok (.invokestatic 297, 3) := by decide +kernel
theorem dX12_sumOf_77 : decode cX12_sumOf 77 = .ok (.iconst 3, 1) := by decide +kernel
theorem dX12_sumOf_78 : decode cX12_sumOf 78 = .ok (.if_icmp .ge 12, 3) := by decide +kernel
theorem dX12_sumOf_81 : decode cX12_sumOf 81 = .ok (.iload_n 1, 1) := by decide +kernel
theorem dX12_sumOf_82 : decode cX12_sumOf 82 = .ok (.aload_n 0, 1) := by decide +kernel
theorem dX12_sumOf_83 : decode cX12_sumOf 83 = .ok (.iload_n 2, 1) := by decide +kernel
theorem dX12_sumOf_84 : decode cX12_sumOf 84 = .ok (.iload_n 3, 1) := by decide +kernel
theorem dX12_sumOf_85 : decode cX12_sumOf 85 = .ok (.invokevirtual 318, 3) := by decide +kernel
theorem dX12_sumOf_88 : decode cX12_sumOf 88 = .ok (.iadd, 1) := by decide +kernel
theorem dX12_sumOf_89 : decode cX12_sumOf 89 = .ok (.istore_n 1, 1) := by decide +kernel
theorem dX12_sumOf_90 : decode cX12_sumOf 90 = .ok (.iinc 3 1, 3) := by decide +kernel
theorem dX12_sumOf_93 : decode cX12_sumOf 93 = .ok (.goto (-52), 3) := by decide +kernel
theorem dX12_sumOf_96 : decode cX12_sumOf 96 = .ok (.iinc 2 1, 3) := by decide +kernel
theorem dX12_sumOf_99 : decode cX12_sumOf 99 = .ok (.goto (-95), 3) := by decide +kernel
theorem dX12_sumOf_102 : decode cX12_sumOf 102 = .ok (.iload_n 1, 1) := by decide +kernel
theorem dX12_sumOf_103 : decode cX12_sumOf 103 = .ok (.ireturn, 1) := by decide +kernel
theorem dX12_sum_0 : decode cX12_sum 0 = .ok (.aload_n 0, 1) := by decide +kernel
theorem dX12_sum_1 : decode cX12_sum 1 = .ok (.invokevirtual 387, 3) := by decide +kernel
theorem dX12_sum_4 : decode cX12_sum 4 = .ok (.ireturn, 1) := by decide +kernel
theorem dX12_bits_0 : decode cX12_bits 0 = .ok (.iconst 0, 1) := by decide +kernel
theorem dX12_bits_1 : decode cX12_bits 1 = .ok (.istore_n 1, 1) := by decide +kernel
theorem dX12_bits_2 : decode cX12_bits 2 = .ok (.iconst 0, 1) := by decide +kernel
theorem dX12_bits_3 : decode cX12_bits 3 = .ok (.istore_n 2, 1) := by decide +kernel
theorem dX12_bits_4 : decode cX12_bits 4 = .ok (.iload_n 2, 1) := by decide +kernel
theorem dX12_bits_5 : decode cX12_bits 5 = .ok (.bipush 16, 2) := by decide +kernel
theorem dX12_bits_7 : decode cX12_bits 7 = .ok (.if_icmp .ge 17, 3) := by decide +kernel
theorem dX12_bits_10 : decode cX12_bits 10 = .ok (.iload_n 1, 1) := by decide +kernel
theorem dX12_bits_11 : decode cX12_bits 11 = .ok (.iload_n 0, 1) := by decide +kernel
theorem dX12_bits_12 : decode cX12_bits 12 = .ok (.iload_n 2, 1) := by decide +kernel
theorem dX12_bits_13 : decode cX12_bits 13 = .ok (.ishr, 1) := by decide +kernel
theorem dX12_bits_14 : decode cX12_bits 14 = .ok (.iconst 1, 1) := by decide +kernel
theorem dX12_bits_15 : decode cX12_bits 15 = .ok (.iand, 1) := by decide +kernel
theorem dX12_bits_16 : decode cX12_bits 16 = .ok (.iadd, 1) := by decide +kernel
theorem dX12_bits_17 : decode cX12_bits 17 = .ok (.istore_n 1, 1) := by decide +kernel
theorem dX12_bits_18 : decode cX12_bits 18 = .ok (.iinc 2 1, 3) := by decide +kernel
theorem dX12_bits_21 : decode cX12_bits 21 = .ok (.goto (-17), 3) := by decide +kernel
theorem dX12_bits_24 : decode cX12_bits 24 = .ok (.iload_n 1, 1) := by decide +kernel
theorem dX12_bits_25 : decode cX12_bits 25 = .ok (.ireturn, 1) := by decide +kernel
theorem dX12_takesSeats_0 : decode cX12_takesSeats 0 = .ok (.iconst 0, 1) := by decide +kernel
theorem dX12_takesSeats_1 : decode cX12_takesSeats 1 = .ok (.istore_n 3, 1) := by decide +kernel
theorem dX12_takesSeats_2 : decode cX12_takesSeats 2 = .ok (.iload_n 3, 1) := by decide +kernel
theorem dX12_takesSeats_3 : decode cX12_takesSeats 3 = .ok (.iload_n 2, 1) := by decide +kernel
theorem dX12_takesSeats_4 : decode cX12_takesSeats 4 = .ok (.if_icmp .ge 124, 3) := by decide +kernel
theorem dX12_takesSeats_7 : decode cX12_takesSeats 7 = .ok (.aload_n 0, 1) := by decide +kernel
theorem dX12_takesSeats_8 : decode cX12_takesSeats 8 = .ok (.getfield 22, 3) := by decide +kernel
theorem dX12_takesSeats_11 : decode cX12_takesSeats 11 = .ok (.iload_n 3, 1) := by decide +kernel
theorem dX12_takesSeats_12 : decode cX12_takesSeats 12 = .ok (.baload, 1) := by decide +kernel
theorem dX12_takesSeats_13 : decode cX12_takesSeats 13 = .ok (.istore 4, 2) := by decide +kernel
theorem dX12_takesSeats_15 : decode cX12_takesSeats 15 = .ok (.iload 4, 2) := by decide +kernel
theorem dX12_takesSeats_17 : decode cX12_takesSeats 17 = .ok (.invokestatic 175, 3) := by decide +kernel
theorem dX12_takesSeats_20 : decode cX12_takesSeats 20 = .ok (.ifCond .ne 5, 3) := by decide +kernel
theorem dX12_takesSeats_23 : decode cX12_takesSeats 23 = .ok (.iconst 0, 1) := by decide +kernel
theorem dX12_takesSeats_24 : decode cX12_takesSeats 24 = .ok (.ireturn, 1) := by decide +kernel
theorem dX12_takesSeats_25 : decode cX12_takesSeats 25 = .ok (.aload_n 0, 1) := by decide +kernel
theorem dX12_takesSeats_26 : decode cX12_takesSeats 26 = .ok (.iload 4, 2) := by decide +kernel
theorem dX12_takesSeats_28 : decode cX12_takesSeats 28 = .ok (.invokevirtual 179, 3) := by decide +kernel
theorem dX12_takesSeats_31 : decode cX12_takesSeats 31 = .ok (.istore 5, 2) := by decide +kernel
theorem dX12_takesSeats_33 : decode cX12_takesSeats 33 = .ok (.iload 5, 2) := by decide +kernel
theorem dX12_takesSeats_35 : decode cX12_takesSeats 35 = .ok (.iconst (-1), 1) := by decide +kernel
theorem dX12_takesSeats_36 : decode cX12_takesSeats 36 = .ok (.if_icmp .eq 14, 3) := by decide +kernel
theorem dX12_takesSeats_39 : decode cX12_takesSeats 39 = .ok (.iload_n 1, 1) := by decide +kernel
theorem dX12_takesSeats_40 : decode cX12_takesSeats 40 = .ok (.iload 5, 2) := by decide +kernel
theorem dX12_takesSeats_42 : decode cX12_takesSeats 42 = .ok (.ishr, 1) := by decide +kernel
theorem dX12_takesSeats_43 : decode cX12_takesSeats 43 = .ok (.iconst 1, 1) := by decide +kernel
theorem dX12_takesSeats_44 : decode cX12_takesSeats 44 = .ok (.iand, 1) := by decide +kernel
theorem dX12_takesSeats_45 : decode cX12_takesSeats 45 = .ok (.ifCond .ne 5, 3) := by decide +kernel
theorem dX12_takesSeats_48 : decode cX12_takesSeats 48 = .ok (.iconst 0, 1) := by decide +kernel
theorem dX12_takesSeats_49 : decode cX12_takesSeats 49 = .ok (.ireturn, 1) := by decide +kernel
theorem dX12_takesSeats_50 : decode cX12_takesSeats 50 = .ok (.iload_n 3, 1) := by decide +kernel
theorem dX12_takesSeats_51 : decode cX12_takesSeats 51 = .ok (.istore 6, 2) := by decide +kernel
theorem dX12_takesSeats_53 : decode cX12_takesSeats 53 = .ok (.iload 6, 2) := by decide +kernel
theorem dX12_takesSeats_55 : decode cX12_takesSeats 55 = .ok (.ifCond .le 58, 3) := by decide +kernel
theorem dX12_takesSeats_58 : decode cX12_takesSeats 58 = .ok (.aload_n 0, 1) := by decide +kernel
theorem dX12_takesSeats_59 : decode cX12_takesSeats 59 = .ok (.getfield 95, 3) := by decide +kernel
theorem dX12_takesSeats_62 : decode cX12_takesSeats 62 = .ok (.iload 6, 2) := by decide +kernel
theorem dX12_takesSeats_64 : decode cX12_takesSeats 64 = .ok (.iconst 1, 1) := by decide +kernel
theorem dX12_takesSeats_65 : decode cX12_takesSeats 65 = .ok (.isub, 1) := by decide +kernel
theorem dX12_takesSeats_66 : decode cX12_takesSeats 66 = .ok (.iaload, 1) := by decide +kernel
theorem dX12_takesSeats_67 : decode cX12_takesSeats 67 = .ok (.iload 4, 2) := by decide +kernel
theorem dX12_takesSeats_69 : decode cX12_takesSeats 69 = .ok (.if_icmp .lt 44, 3) := by decide +kernel
theorem dX12_takesSeats_72 : decode cX12_takesSeats 72 = .ok (.aload_n 0, 1) := by decide +kernel
theorem dX12_takesSeats_73 : decode cX12_takesSeats 73 = .ok (.getfield 95, 3) := by decide +kernel
theorem dX12_takesSeats_76 : decode cX12_takesSeats 76 = .ok (.iload 6, 2) := by decide +kernel
theorem dX12_takesSeats_78 : decode cX12_takesSeats 78 = .ok (.iconst 1, 1) := by decide +kernel
theorem dX12_takesSeats_79 : decode cX12_takesSeats 79 = .ok (.isub, 1) := by decide +kernel
theorem dX12_takesSeats_80 : decode cX12_takesSeats 80 = .ok (.iaload, 1) := by decide +kernel
theorem dX12_takesSeats_81 : decode cX12_takesSeats 81 = .ok (.iload 4, 2) := by decide +kernel
theorem dX12_takesSeats_83 : decode cX12_takesSeats 83 = .ok (.if_icmp .ne 5, 3) := by decide +kernel
theorem dX12_takesSeats_86 : decode cX12_takesSeats 86 = .ok (.iconst 0, 1) := by decide +kernel
theorem dX12_takesSeats_87 : decode cX12_takesSeats 87 = .ok (.ireturn, 1) := by decide +kernel
theorem dX12_takesSeats_88 : decode cX12_takesSeats 88 = .ok (.aload_n 0, 1) := by decide +kernel
theorem dX12_takesSeats_89 : decode cX12_takesSeats 89 = .ok (.getfield 95, 3) := by decide +kernel
theorem dX12_takesSeats_92 : decode cX12_takesSeats 92 = .ok (.iload 6, 2) := by decide +kernel
theorem dX12_takesSeats_94 : decode cX12_takesSeats 94 = .ok (.aload_n 0, 1) := by decide +kernel
theorem dX12_takesSeats_95 : decode cX12_takesSeats 95 = .ok (.getfield 95, 3) := by decide +kernel
theorem dX12_takesSeats_98 : decode cX12_takesSeats 98 = .ok (.iload 6, 2) := by decide +kernel
theorem dX12_takesSeats_100 : decode cX12_takesSeats 100 = .ok (.iconst 1, 1) := by decide +kernel
theorem dX12_takesSeats_101 : decode cX12_takesSeats 101 = .ok (.isub, 1) := by decide +kernel
theorem dX12_takesSeats_102 : decode cX12_takesSeats 102 = .ok (.iaload, 1) := by decide +kernel
theorem dX12_takesSeats_103 : decode cX12_takesSeats 103 = .ok (.iastore, 1) := by decide +kernel
theorem dX12_takesSeats_104 : decode cX12_takesSeats 104 = .ok (.iload 6, 2) := by decide +kernel
theorem dX12_takesSeats_106 : decode cX12_takesSeats 106 = .ok (.iconst 1, 1) := by decide +kernel
theorem dX12_takesSeats_107 : decode cX12_takesSeats 107 = .ok (.isub, 1) := by decide +kernel
theorem dX12_takesSeats_108 : decode cX12_takesSeats 108 = .ok (.istore 6, 2) := by decide +kernel
theorem dX12_takesSeats_110 : decode cX12_takesSeats 110 = .ok (.goto (-57), 3) := by decide +kernel
theorem dX12_takesSeats_113 : decode cX12_takesSeats 113 = .ok (.aload_n 0, 1) := by decide +kernel
theorem dX12_takesSeats_114 : decode cX12_takesSeats 114 = .ok (.getfield 95, 3) := by decide +kernel
theorem dX12_takesSeats_117 : decode cX12_takesSeats 117 = .ok (.iload 6, 2) := by decide +kernel
theorem dX12_takesSeats_119 : decode cX12_takesSeats 119 = .ok (.iload 4, 2) := by decide +kernel
theorem dX12_takesSeats_121 : decode cX12_takesSeats 121 = .ok (.iastore, 1) := by decide +kernel
theorem dX12_takesSeats_122 : decode cX12_takesSeats 122 = .ok (.iinc 3 1, 3) := by decide +kernel
theorem dX12_takesSeats_125 : decode cX12_takesSeats 125 = .ok (.goto (-123), 3) := by decide +kernel
theorem dX12_takesSeats_128 : decode cX12_takesSeats 128 = .ok (.iconst 0, 1) := by decide +kernel
theorem dX12_takesSeats_129 : decode cX12_takesSeats 129 = .ok (.istore_n 3, 1) := by decide +kernel
theorem dX12_takesSeats_130 : decode cX12_takesSeats 130 = .ok (.iload_n 3, 1) := by decide +kernel
theorem dX12_takesSeats_131 : decode cX12_takesSeats 131 = .ok (.bipush 16, 2) := by decide +kernel
theorem dX12_takesSeats_133 : decode cX12_takesSeats 133 = .ok (.if_icmp .ge 31, 3) := by decide +kernel
theorem dX12_takesSeats_136 : decode cX12_takesSeats 136 = .ok (.iload_n 1, 1) := by decide +kernel
theorem dX12_takesSeats_137 : decode cX12_takesSeats 137 = .ok (.iload_n 3, 1) := by decide +kernel
theorem dX12_takesSeats_138 : decode cX12_takesSeats 138 = .ok (.ishr, 1) := by decide +kernel
theorem dX12_takesSeats_139 : decode cX12_takesSeats 139 = .ok (.iconst 1, 1) := by decide +kernel
theorem dX12_takesSeats_140 : decode cX12_takesSeats 140 = .ok (.iand, 1) := by decide +kernel
theorem dX12_takesSeats_141 : decode cX12_takesSeats 141 = .ok (.iconst 1, 1) := by decide +kernel
theorem dX12_takesSeats_142 : decode cX12_takesSeats 142 = .ok (.if_icmp .ne 16, 3) := by decide +kernel
theorem dX12_takesSeats_145 : decode cX12_takesSeats 145 = .ok (.aload_n 0, 1) := by decide +kernel
theorem dX12_takesSeats_146 : decode cX12_takesSeats 146 = .ok (.getfield 13, 3) := by decide +kernel
theorem dX12_takesSeats_149 : decode cX12_takesSeats 149 = .ok (.iload_n 3, 1) := by decide +kernel
theorem dX12_takesSeats_150 : decode cX12_takesSeats 150 = .ok (.iaload, 1) := by decide +kernel
theorem dX12_takesSeats_151 : decode cX12_takesSeats 151 = .ok (.bipush (-2), 2) := by decide +kernel
theorem dX12_takesSeats_153 : decode cX12_takesSeats 153 = .ok (.if_icmp .ne 5, 3) := by decide +kernel
theorem dX12_takesSeats_156 : decode cX12_takesSeats 156 = .ok (.iconst 0, 1) := by decide +kernel
theorem dX12_takesSeats_157 : decode cX12_takesSeats 157 = .ok (.ireturn, 1) := by decide +kernel
theorem dX12_takesSeats_158 : decode cX12_takesSeats 158 = .ok (.iinc 3 1, 3) := by decide +kernel
theorem dX12_takesSeats_161 : decode cX12_takesSeats 161 = .ok (.goto (-31), 3) := by decide +kernel
theorem dX12_takesSeats_164 : decode cX12_takesSeats 164 = .ok (.iconst 1, 1) := by decide +kernel
theorem dX12_takesSeats_165 : decode cX12_takesSeats 165 = .ok (.ireturn, 1) := by decide +kernel
theorem dX12_seatsBy_0 : decode cX12_seatsBy 0 = .ok (.iload_n 3, 1) := by decide +kernel
theorem dX12_seatsBy_1 : decode cX12_seatsBy 1 = .ok (.istore 5, 2) := by decide +kernel
theorem dX12_seatsBy_3 : decode cX12_seatsBy 3 = .ok (.iload 4, 2) := by decide +kernel
theorem dX12_seatsBy_5 : decode cX12_seatsBy 5 = .ok (.istore 6, 2) := by decide +kernel
theorem dX12_seatsBy_7 : decode cX12_seatsBy 7 = .ok (.iconst 0, 1) := by decide +kernel
theorem dX12_seatsBy_8 : decode cX12_seatsBy 8 = .ok (.istore 7, 2) := by decide +kernel
theorem dX12_seatsBy_10 : decode cX12_seatsBy 10 = .ok (.iconst 0, 1) := by decide +kernel
theorem dX12_seatsBy_11 : decode cX12_seatsBy 11 = .ok (.istore 8, 2) := by decide +kernel
theorem dX12_seatsBy_13 : decode cX12_seatsBy 13 = .ok (.iconst 0, 1) := by decide +kernel
theorem dX12_seatsBy_14 : decode cX12_seatsBy 14 = .ok (.istore 9, 2) := by decide +kernel
theorem dX12_seatsBy_16 : decode cX12_seatsBy 16 = .ok (.iload 9, 2) := by decide +kernel
theorem dX12_seatsBy_18 : decode cX12_seatsBy 18 = .ok (.bipush 16, 2) := by decide +kernel
theorem dX12_seatsBy_20 : decode cX12_seatsBy 20 = .ok (.if_icmp .ge 123, 3) := by decide +kernel
theorem dX12_seatsBy_23 : decode cX12_seatsBy 23 = .ok (.iload_n 1, 1) := by decide +kernel
theorem dX12_seatsBy_24 : decode cX12_seatsBy 24 = .ok (.iload 9, 2) := by decide +kernel
theorem dX12_seatsBy_26 : decode cX12_seatsBy 26 = .ok (.ishr, 1) := by decide +kernel
theorem dX12_seatsBy_27 : decode cX12_seatsBy 27 = .ok (.iconst 1, 1) := by decide +kernel
theorem dX12_seatsBy_28 : decode cX12_seatsBy 28 = .ok (.iand, 1) := by decide +kernel
theorem dX12_seatsBy_29 : decode cX12_seatsBy 29 = .ok (.ifCond .ne 6, 3) := by decide +kernel
theorem dX12_seatsBy_32 : decode cX12_seatsBy 32 = .ok (.goto 105, 3) := by decide +kernel
theorem dX12_seatsBy_35 : decode cX12_seatsBy 35 = .ok (.iload 6, 2) := by decide +kernel
theorem dX12_seatsBy_37 : decode cX12_seatsBy 37 = .ok (.iload_n 2, 1) := by decide +kernel
theorem dX12_seatsBy_38 : decode cX12_seatsBy 38 = .ok (.iload 8, 2) := by decide +kernel
theorem dX12_seatsBy_40 : decode cX12_seatsBy 40 = .ok (.isub, 1) := by decide +kernel
theorem dX12_seatsBy_41 : decode cX12_seatsBy 41 = .ok (.idiv, 1) := by decide +kernel
theorem dX12_seatsBy_42 : decode cX12_seatsBy 42 = .ok (.istore 6, 2) := by decide +kernel
theorem dX12_seatsBy_44 : decode cX12_seatsBy 44 = .ok (.iload 5, 2) := by decide +kernel
theorem dX12_seatsBy_46 : decode cX12_seatsBy 46 = .ok (.iload 6, 2) := by decide +kernel
theorem dX12_seatsBy_48 : decode cX12_seatsBy 48 = .ok (.idiv, 1) := by decide +kernel
theorem dX12_seatsBy_49 : decode cX12_seatsBy 49 = .ok (.istore 10, 2) := by decide +kernel
theorem dX12_seatsBy_51 : decode cX12_seatsBy 51 = .ok (.iload 5, 2) := by decide +kernel
theorem dX12_seatsBy_53 : decode cX12_seatsBy 53 = .ok (.iload 6, 2) := by decide +kernel
theorem dX12_seatsBy_55 : decode cX12_seatsBy 55 = .ok (.irem, 1) := by decide +kernel
theorem dX12_seatsBy_56 : decode cX12_seatsBy 56 = .ok (.istore 5, 2) := by decide +kernel
theorem dX12_seatsBy_58 : decode cX12_seatsBy 58 = .ok (.iconst 0, 1) := by decide +kernel
theorem dX12_seatsBy_59 : decode cX12_seatsBy 59 = .ok (.istore 11, 2) := by decide +kernel
theorem dX12_seatsBy_61 : decode cX12_seatsBy 61 = .ok (.iload 7, 2) := by decide +kernel
theorem dX12_seatsBy_63 : decode cX12_seatsBy 63 = .ok (.iload 11, 2) := by decide +kernel
theorem dX12_seatsBy_65 : decode cX12_seatsBy 65 = .ok (.ishr, 1) := by decide +kernel
theorem dX12_seatsBy_66 : decode cX12_seatsBy 66 = .ok (.iconst 1, 1) := by decide +kernel
theorem dX12_seatsBy_67 : decode cX12_seatsBy 67 = .ok (.iand, 1) := by decide +kernel
theorem dX12_seatsBy_68 : decode cX12_seatsBy 68 = .ok (.iconst 1, 1) := by decide +kernel
theorem dX12_seatsBy_69 : decode cX12_seatsBy 69 = .ok (.if_icmp .eq 8, 3) := by decide +kernel
theorem dX12_seatsBy_72 : decode cX12_seatsBy 72 = .ok (.iload 10, 2) := by decide +kernel
theorem dX12_seatsBy_74 : decode cX12_seatsBy 74 = .ok (.ifCond .le 34, 3) := by decide +kernel
theorem dX12_seatsBy_77 : decode cX12_seatsBy 77 = .ok (.iload 7, 2) := by decide +kernel
theorem dX12_seatsBy_79 : decode cX12_seatsBy 79 = .ok (.iload 11, 2) := by decide +kernel
theorem dX12_seatsBy_81 : decode cX12_seatsBy 81 = .ok (.ishr, 1) := by decide +kernel
theorem dX12_seatsBy_82 : decode cX12_seatsBy 82 = .ok (.iconst 1, 1) := by decide +kernel
theorem dX12_seatsBy_83 : decode cX12_seatsBy 83 = .ok (.iand, 1) := by decide +kernel
theorem dX12_seatsBy_84 : decode cX12_seatsBy 84 = .ok (.iconst 1, 1) := by decide +kernel
theorem dX12_seatsBy_85 : decode cX12_seatsBy 85 = .ok (.if_icmp .ne 8, 3) := by decide +kernel
theorem dX12_seatsBy_88 : decode cX12_seatsBy 88 = .ok (.iload 10, 2) := by decide +kernel
theorem dX12_seatsBy_90 : decode cX12_seatsBy 90 = .ok (.goto 7, 3) := by decide +kernel
theorem dX12_seatsBy_93 : decode cX12_seatsBy 93 = .ok (.iload 10, 2) := by decide +kernel
theorem dX12_seatsBy_95 : decode cX12_seatsBy 95 = .ok (.iconst 1, 1) := by decide +kernel
theorem dX12_seatsBy_96 : decode cX12_seatsBy 96 = .ok (.isub, 1) := by decide +kernel
theorem dX12_seatsBy_97 : decode cX12_seatsBy 97 = .ok (.istore 10, 2) := by decide +kernel
theorem dX12_seatsBy_99 : decode cX12_seatsBy 99 = .ok (.iload 11, 2) := by decide +kernel
theorem dX12_seatsBy_101 : decode cX12_seatsBy 101 = .ok (.iconst 1, 1) := by decide +kernel
theorem dX12_seatsBy_102 : decode cX12_seatsBy 102 = .ok (.iadd, 1) := by decide +kernel
theorem dX12_seatsBy_103 : decode cX12_seatsBy 103 = .ok (.istore 11, 2) := by decide +kernel
theorem dX12_seatsBy_105 : decode cX12_seatsBy 105 = .ok (.goto (-44), 3) := by decide +kernel
theorem dX12_seatsBy_108 : decode cX12_seatsBy 108 = .ok (.iload 7, 2) := by decide +kernel
theorem dX12_seatsBy_110 : decode cX12_seatsBy 110 = .ok (.iconst 1, 1) := by decide +kernel
theorem dX12_seatsBy_111 : decode cX12_seatsBy 111 = .ok (.iload 11, 2) := by decide +kernel
theorem dX12_seatsBy_113 : decode cX12_seatsBy 113 = .ok (.ishl, 1) := by decide +kernel
theorem dX12_seatsBy_114 : decode cX12_seatsBy 114 = .ok (.ior, 1) := by decide +kernel
theorem dX12_seatsBy_115 : decode cX12_seatsBy 115 = .ok (.istore 7, 2) := by decide +kernel
theorem dX12_seatsBy_117 : decode cX12_seatsBy 117 = .ok (.aload_n 0, 1) := by decide +kernel
theorem dX12_seatsBy_118 : decode cX12_seatsBy 118 = .ok (.getfield 13, 3) := by decide +kernel
theorem dX12_seatsBy_121 : decode cX12_seatsBy 121 = .ok (.iload 9, 2) := by decide +kernel
theorem dX12_seatsBy_123 : decode cX12_seatsBy 123 = .ok (.aload_n 0, 1) := by decide +kernel
theorem dX12_seatsBy_124 : decode cX12_seatsBy 124 = .ok (.getfield 95, 3) := by decide +kernel
theorem dX12_seatsBy_127 : decode cX12_seatsBy 127 = .ok (.iload 11, 2) := by decide +kernel
theorem dX12_seatsBy_129 : decode cX12_seatsBy 129 = .ok (.iaload, 1) := by decide +kernel
theorem dX12_seatsBy_130 : decode cX12_seatsBy 130 = .ok (.iastore, 1) := by decide +kernel
theorem dX12_seatsBy_131 : decode cX12_seatsBy 131 = .ok (.iload 8, 2) := by decide +kernel
theorem dX12_seatsBy_133 : decode cX12_seatsBy 133 = .ok (.iconst 1, 1) := by decide +kernel
theorem dX12_seatsBy_134 : decode cX12_seatsBy 134 = .ok (.iadd, 1) := by decide +kernel
theorem dX12_seatsBy_135 : decode cX12_seatsBy 135 = .ok (.istore 8, 2) := by decide +kernel
theorem dX12_seatsBy_137 : decode cX12_seatsBy 137 = .ok (.iinc 9 1, 3) := by decide +kernel
theorem dX12_seatsBy_140 : decode cX12_seatsBy 140 = .ok (.goto (-124), 3) := by decide +kernel
theorem dX12_seatsBy_143 : decode cX12_seatsBy 143 = .ok (.return_, 1) := by decide +kernel
theorem dX12_seating_0 : decode cX12_seating 0 = .ok (.iload_n 1, 1) := by decide +kernel
theorem dX12_seating_1 : decode cX12_seating 1 = .ok (.iconst 1, 1) := by decide +kernel
theorem dX12_seating_2 : decode cX12_seating 2 = .ok (.iconst 1, 1) := by decide +kernel
theorem dX12_seating_3 : decode cX12_seating 3 = .ok (.aload_n 0, 1) := by decide +kernel
theorem dX12_seating_4 : decode cX12_seating 4 = .ok (.getfield 168, 3) := by decide +kernel
theorem dX12_seating_7 : decode cX12_seating 7 = .ok (.ishl, 1) := by decide +kernel
theorem dX12_seating_8 : decode cX12_seating 8 = .ok (.iconst 1, 1) := by decide +kernel
theorem dX12_seating_9 : decode cX12_seating 9 = .ok (.isub, 1) := by decide +kernel
theorem dX12_seating_10 : decode cX12_seating 10 = .ok (.invokestatic 171, 3) := by decide +kernel
theorem dX12_seating_13 : decode cX12_seating 13 = .ok (.ifCond .eq 57, 3) := by decide +kernel
theorem dX12_seating_16 : decode cX12_seating 16 = .ok (.iload_n 2, 1) := by decide +kernel
theorem dX12_seating_17 : decode cX12_seating 17 = .ok (.iconst 1, 1) := by decide +kernel
theorem dX12_seating_18 : decode cX12_seating 18 = .ok (.bipush 7, 2) := by decide +kernel
theorem dX12_seating_20 : decode cX12_seating 20 = .ok (.invokestatic 171, 3) := by decide +kernel
theorem dX12_seating_23 : decode cX12_seating 23 = .ok (.ifCond .eq 47, 3) := by decide +kernel
theorem dX12_seating_26 : decode cX12_seating 26 = .ok (.iload_n 1, 1) := by decide +kernel
theorem dX12_seating_27 : decode cX12_seating 27 = .ok (.invokestatic 390, 3) := by decide +kernel
theorem dX12_seating_30 : decode cX12_seating 30 = .ok (.iload_n 2, 1) := by decide +kernel
theorem dX12_seating_31 : decode cX12_seating 31 = .ok (.if_icmp .ne 39, 3) := by decide +kernel
theorem dX12_seating_34 : decode cX12_seating 34 = .ok (.iload_n 2, 1) := by decide +kernel
theorem dX12_seating_35 : decode cX12_seating 35 = .ok (.aload_n 0, 1) := by decide +kernel
theorem dX12_seating_36 : decode cX12_seating 36 = .ok (.getfield 186, 3) := by decide +kernel
theorem dX12_seating_39 : decode cX12_seating 39 = .ok (.if_icmp .gt 31, 3) := by decide +kernel
theorem dX12_seating_42 : decode cX12_seating 42 = .ok (.iload_n 3, 1) := by decide +kernel
theorem dX12_seating_43 : decode cX12_seating 43 = .ok (.iconst (-1), 1) := by decide +kernel
theorem dX12_seating_44 : decode cX12_seating 44 = .ok (.bipush 16, 2) := by decide +kernel
theorem dX12_seating_46 : decode cX12_seating 46 = .ok (.invokestatic 171, 3) := by decide +kernel
theorem dX12_seating_49 : decode cX12_seating 49 = .ok (.ifCond .eq 21, 3) := by decide +kernel
theorem dX12_seating_52 : decode cX12_seating 52 = .ok (.iload_n 3, 1) := by decide +kernel
theorem dX12_seating_53 : decode cX12_seating 53 = .ok (.iconst 0, 1) := by decide +kernel
theorem dX12_seating_54 : decode cX12_seating 54 = .ok (.bipush 15, 2) := by decide +kernel
theorem dX12_seating_56 : decode cX12_seating 56 = .ok (.invokestatic 171, 3) := by decide +kernel
theorem dX12_seating_59 : decode cX12_seating 59 = .ok (.ifCond .eq 15, 3) := by decide +kernel
theorem dX12_seating_62 : decode cX12_seating 62 = .ok (.iload_n 1, 1) := by decide +kernel
theorem dX12_seating_63 : decode cX12_seating 63 = .ok (.iload_n 3, 1) := by decide +kernel
theorem dX12_seating_64 : decode cX12_seating 64 = .ok (.ishr, 1) := by decide +kernel
theorem dX12_seating_65 : decode cX12_seating 65 = .ok (.iconst 1, 1) := by decide +kernel
theorem dX12_seating_66 : decode cX12_seating 66 = .ok (.iand, 1) := by decide +kernel
theorem dX12_seating_67 : decode cX12_seating 67 = .ok (.ifCond .ne 7, 3) := by decide +kernel
theorem dX12_seating_70 : decode cX12_seating 70 = .ok (.ldc_w 393, 3) := by decide +kernel
theorem dX12_seating_73 : decode cX12_seating 73 = .ok (.ireturn, 1) := by decide +kernel
theorem dX12_seating_74 : decode cX12_seating 74 = .ok (.aload_n 0, 1) := by decide +kernel
theorem dX12_seating_75 : decode cX12_seating 75 = .ok (.iconst 0, 1) := by decide +kernel
theorem dX12_seating_76 : decode cX12_seating 76 = .ok (.putfield 186, 3) := by decide +kernel
theorem dX12_seating_79 : decode cX12_seating 79 = .ok (.aload_n 0, 1) := by decide +kernel
theorem dX12_seating_80 : decode cX12_seating 80 = .ok (.iload_n 1, 1) := by decide +kernel
theorem dX12_seating_81 : decode cX12_seating 81 = .ok (.iload_n 2, 1) := by decide +kernel
theorem dX12_seating_82 : decode cX12_seating 82 = .ok (.invokevirtual 394, 3) := by decide +kernel
theorem dX12_seating_85 : decode cX12_seating 85 = .ok (.ifCond .ne 7, 3) := by decide +kernel
theorem dX12_seating_88 : decode cX12_seating 88 = .ok (.ldc_w 397, 3) := by decide +kernel
theorem dX12_seating_91 : decode cX12_seating 91 = .ok (.ireturn, 1) := by decide +kernel
theorem dX12_seating_92 : decode cX12_seating 92 = .ok (.iconst 0, 1) := by decide +kernel
theorem dX12_seating_93 : decode cX12_seating 93 = .ok (.istore 4, 2) := by decide +kernel
theorem dX12_seating_95 : decode cX12_seating 95 = .ok (.iload 4, 2) := by decide +kernel
theorem dX12_seating_97 : decode cX12_seating 97 = .ok (.bipush 16, 2) := by decide +kernel
theorem dX12_seating_99 : decode cX12_seating 99 = .ok (.if_icmp .ge 23, 3) := by decide +kernel
theorem dX12_seating_102 : decode cX12_seating 102 = .ok (.aload_n 0, 1) := by decide +kernel
theorem dX12_seating_103 : decode cX12_seating 103 = .ok (.getfield 98, 3) := by decide +kernel
theorem dX12_seating_106 : decode cX12_seating 106 = .ok (.iload 4, 2) := by decide +kernel
theorem dX12_seating_108 : decode cX12_seating 108 = .ok (.aload_n 0, 1) := by decide +kernel
theorem dX12_seating_109 : decode cX12_seating 109 = .ok (.getfield 13, 3) := by decide +kernel
theorem dX12_seating_112 : decode cX12_seating 112 = .ok (.iload 4, 2) := by decide +kernel
theorem dX12_seating_114 : decode cX12_seating 114 = .ok (.iaload, 1) := by decide +kernel
theorem dX12_seating_115 : decode cX12_seating 115 = .ok (.iastore, 1) := by decide +kernel
theorem dX12_seating_116 : decode cX12_seating 116 = .ok (.iinc 4 1, 3) := by decide +kernel
theorem dX12_seating_119 : decode cX12_seating 119 = .ok (.goto (-24), 3) := by decide +kernel
theorem dX12_seating_122 : decode cX12_seating 122 = .ok (.iconst 1, 1) := by decide +kernel
theorem dX12_seating_123 : decode cX12_seating 123 = .ok (.istore 4, 2) := by decide +kernel
theorem dX12_seating_125 : decode cX12_seating 125 = .ok (.iconst 2, 1) := by decide +kernel
theorem dX12_seating_126 : decode cX12_seating 126 = .ok (.istore 5, 2) := by decide +kernel
theorem dX12_seating_128 : decode cX12_seating 128 = .ok (.iload 5, 2) := by decide +kernel
theorem dX12_seating_130 : decode cX12_seating 130 = .ok (.iload_n 2, 1) := by decide +kernel
theorem dX12_seating_131 : decode cX12_seating 131 = .ok (.if_icmp .gt 16, 3) := by decide +kernel
theorem dX12_seating_134 : decode cX12_seating 134 = .ok (.iload 4, 2) := by decide +kernel
theorem dX12_seating_136 : decode cX12_seating 136 = .ok (.iload 5, 2) := by decide +kernel
theorem dX12_seating_138 : decode cX12_seating 138 = .ok (.imul, 1) := by decide +kernel
theorem dX12_seating_139 : decode cX12_seating 139 = .ok (.istore 4, 2) := by decide +kernel
theorem dX12_seating_141 : decode cX12_seating 141 = .ok (.iinc 5 1, 3) := by decide +kernel
theorem dX12_seating_144 : decode cX12_seating 144 = .ok (.goto (-16), 3) := by decide +kernel
theorem dX12_seating_147 : decode cX12_seating 147 = .ok (.iconst 0, 1) := by decide +kernel
theorem dX12_seating_148 : decode cX12_seating 148 = .ok (.istore 5, 2) := by decide +kernel
theorem dX12_seating_150 : decode cX12_seating 150 = .ok (.ldc_w 339, 3) := by decide +kernel
theorem dX12_seating_153 : decode cX12_seating 153 = .ok (.istore 6, 2) := by decide +kernel
theorem dX12_seating_155 : decode cX12_seating 155 = .ok (.iconst 0, 1) := by decide +kernel
theorem dX12_seating_156 : decode cX12_seating 156 = .ok (.istore 7, 2) := by decide +kernel
theorem dX12_seating_158 : decode cX12_seating 158 = .ok (.iload 7, 2) := by decide +kernel
theorem dX12_seating_160 : decode cX12_seating 160 = .ok (.iload 4, 2) := by decide +kernel
theorem dX12_seating_162 : decode cX12_seating 162 = .ok (.if_icmp .ge 43, 3) := by decide +kernel
theorem dX12_seating_165 : decode cX12_seating 165 = .ok (.aload_n 0, 1) := by decide +kernel
theorem dX12_seating_166 : decode cX12_seating 166 = .ok (.iload_n 1, 1) := by decide +kernel
theorem dX12_seating_167 : decode cX12_seating 167 = .ok (.iload_n 2, 1) := by decide +kernel
theorem dX12_seating_168 : decode cX12_seating 168 = .ok (.iload 7, 2) := by decide +kernel
theorem dX12_seating_170 : decode cX12_seating 170 = .ok (.iload 4, 2) := by decide +kernel
theorem dX12_seating_172 : decode cX12_seating 172 = .ok (.invokevirtual 398, 3) := by decide +kernel
theorem dX12_seating_175 : decode cX12_seating 175 = .ok (.aload_n 0, 1) := by decide +kernel
theorem dX12_seating_176 : decode cX12_seating 176 = .ok (.invokevirtual 387, 3) := by decide +kernel
theorem dX12_seating_179 : decode cX12_seating 179 = .ok (.istore 8, 2) := by decide +kernel
theorem dX12_seating_181 : decode cX12_seating 181 = .ok (.iload 8, 2) := by decide +kernel
theorem dX12_seating_183 : decode cX12_seating 183 = .ok (.iload 6, 2) := by decide +kernel
theorem dX12_seating_185 : decode cX12_seating 185 = .ok (.if_icmp .lt 6, 3) := by decide +kernel
theorem dX12_seating_188 : decode cX12_seating 188 = .ok (.goto 11, 3) := by decide +kernel
theorem dX12_seating_191 : decode cX12_seating 191 = .ok (.iload 8, 2) := by decide +kernel
theorem dX12_seating_193 : decode cX12_seating 193 = .ok (.istore 6, 2) := by decide +kernel
theorem dX12_seating_195 : decode cX12_seating 195 = .ok (.iload 7, 2) := by decide +kernel
theorem dX12_seating_197 : decode cX12_seating 197 = .ok (.istore 5, 2) := by decide +kernel
theorem dX12_seating_199 : decode cX12_seating 199 = .ok (.iinc 7 1, 3) := by decide +kernel
theorem dX12_seating_202 : decode cX12_seating 202 = .ok (.goto (-44), 3) := by decide +kernel
theorem dX12_seating_205 : decode cX12_seating 205 = .ok (.aload_n 0, 1) := by decide +kernel
theorem dX12_seating_206 : decode cX12_seating 206 = .ok (.iload_n 1, 1) := by decide +kernel
theorem dX12_seating_207 : decode cX12_seating 207 = .ok (.iload_n 2, 1) := by decide +kernel
theorem dX12_seating_208 : decode cX12_seating 208 = .ok (.iload 5, 2) := by decide +kernel
theorem dX12_seating_210 : decode cX12_seating 210 = .ok (.iload 4, 2) := by decide +kernel
theorem dX12_seating_212 : decode cX12_seating 212 = .ok (.invokevirtual 398, 3) := by decide +kernel
theorem dX12_seating_215 : decode cX12_seating 215 = .ok (.iload_n 3, 1) := by decide +kernel
theorem dX12_seating_216 : decode cX12_seating 216 = .ok (.iconst 0, 1) := by decide +kernel
theorem dX12_seating_217 : decode cX12_seating 217 = .ok (.bipush 15, 2) := by decide +kernel
theorem dX12_seating_219 : decode cX12_seating 219 = .ok (.invokestatic 171, 3) := by decide +kernel
theorem dX12_seating_222 : decode cX12_seating 222 = .ok (.ifCond .eq 12, 3) := by decide +kernel
theorem dX12_seating_225 : decode cX12_seating 225 = .ok (.aload_n 0, 1) := by decide +kernel
theorem dX12_seating_226 : decode cX12_seating 226 = .ok (.getfield 13, 3) := by decide +kernel
theorem dX12_seating_229 : decode cX12_seating 229 = .ok (.iload_n 3, 1) := by decide +kernel
theorem dX12_seating_230 : decode cX12_seating 230 = .ok (.iaload, 1) := by decide +kernel
theorem dX12_seating_231 : decode cX12_seating 231 = .ok (.goto 5, 3) := by decide +kernel
theorem dX12_seating_234 : decode cX12_seating 234 = .ok (.iload 6, 2) := by decide +kernel
theorem dX12_seating_236 : decode cX12_seating 236 = .ok (.istore 7, 2) := by decide +kernel
theorem dX12_seating_238 : decode cX12_seating 238 = .ok (.iconst 0, 1) := by decide +kernel
theorem dX12_seating_239 : decode cX12_seating 239 = .ok (.istore 8, 2) := by decide +kernel
theorem dX12_seating_241 : decode cX12_seating 241 = .ok (.iload 8, 2) := by decide +kernel
theorem dX12_seating_243 : decode cX12_seating 243 = .ok (.bipush 16, 2) := by decide +kernel
theorem dX12_seating_245 : decode cX12_seating 245 = .ok (.if_icmp .ge 29, 3) := by decide +kernel
theorem dX12_seating_248 : decode cX12_seating 248 = .ok (.iload_n 3, 1) := by decide +kernel
theorem dX12_seating_249 : decode cX12_seating 249 = .ok (.bipush 16, 2) := by decide +kernel
theorem dX12_seating_251 : decode cX12_seating 251 = .ok (.if_icmp .eq 23, 3) := by decide +kernel
theorem dX12_seating_254 : decode cX12_seating 254 = .ok (.aload_n 0, 1) := by decide +kernel
theorem dX12_seating_255 : decode cX12_seating 255 = .ok (.getfield 13, 3) := by decide +kernel
theorem dX12_seating_258 : decode cX12_seating 258 = .ok (.iload 8, 2) := by decide +kernel
theorem dX12_seating_260 : decode cX12_seating 260 = .ok (.aload_n 0, 1) := by decide +kernel
theorem dX12_seating_261 : decode cX12_seating 261 = .ok (.getfield 98, 3) := by decide +kernel
theorem dX12_seating_264 : decode cX12_seating 264 = .ok (.iload 8, 2) := by decide +kernel
theorem dX12_seating_266 : decode cX12_seating 266 = .ok (.iaload, 1) := by decide +kernel
theorem dX12_seating_267 : decode cX12_seating 267 = .ok (.iastore, 1) := by decide +kernel
theorem dX12_seating_268 : decode cX12_seating 268 = .ok (.iinc 8 1, 3) := by decide +kernel
theorem dX12_seating_271 : decode cX12_seating 271 = .ok (.goto (-30), 3) := by decide +kernel
theorem dX12_seating_274 : decode cX12_seating 274 = .ok (.iload 7, 2) := by decide +kernel
theorem dX12_seating_276 : decode cX12_seating 276 = .ok (.ireturn, 1) := by decide +kernel
theorem dX12_changes_0 : decode cX12_changes 0 = .ok (.aload_n 0, 1) := by decide +kernel
theorem dX12_changes_1 : decode cX12_changes 1 = .ok (.iload_n 2, 1) := by decide +kernel
theorem dX12_changes_2 : decode cX12_changes 2 = .ok (.invokevirtual 179, 3) := by decide +kernel
theorem dX12_changes_5 : decode cX12_changes 5 = .ok (.istore_n 3, 1) := by decide +kernel
theorem dX12_changes_6 : decode cX12_changes 6 = .ok (.aload_n 0, 1) := by decide +kernel
theorem dX12_changes_7 : decode cX12_changes 7 = .ok (.getfield 13, 3) := by decide +kernel
theorem dX12_changes_10 : decode cX12_changes 10 = .ok (.iload_n 1, 1) := by decide +kernel
theorem dX12_changes_11 : decode cX12_changes 11 = .ok (.iaload, 1) := by decide +kernel
theorem dX12_changes_12 : decode cX12_changes 12 = .ok (.istore 4, 2) := by decide +kernel
theorem dX12_changes_14 : decode cX12_changes 14 = .ok (.aload_n 0, 1) := by decide +kernel
theorem dX12_changes_15 : decode cX12_changes 15 = .ok (.getfield 13, 3) := by decide +kernel
theorem dX12_changes_18 : decode cX12_changes 18 = .ok (.iload_n 1, 1) := by decide +kernel
theorem dX12_changes_19 : decode cX12_changes 19 = .ok (.iload_n 2, 1) := by decide +kernel
theorem dX12_changes_20 : decode cX12_changes 20 = .ok (.iastore, 1) := by decide +kernel
theorem dX12_changes_21 : decode cX12_changes 21 = .ok (.iload_n 3, 1) := by decide +kernel
theorem dX12_changes_22 : decode cX12_changes 22 = .ok (.iconst (-1), 1) := by decide +kernel
theorem dX12_changes_23 : decode cX12_changes 23 = .ok (.if_icmp .eq 11, 3) := by decide +kernel
theorem dX12_changes_26 : decode cX12_changes 26 = .ok (.aload_n 0, 1) := by decide +kernel
theorem dX12_changes_27 : decode cX12_changes 27 = .ok (.getfield 13, 3) := by decide +kernel
theorem dX12_changes_30 : decode cX12_changes 30 = .ok (.iload_n 3, 1) := by decide +kernel
theorem dX12_changes_31 : decode cX12_changes 31 = .ok (.iload 4, 2) := by decide +kernel
theorem dX12_changes_33 : decode cX12_changes 33 = .ok (.iastore, 1) := by decide +kernel
theorem dX12_changes_34 : decode cX12_changes 34 = .ok (.return_, 1) := by decide +kernel
theorem dX12_laysExchange_0 : decode cX12_laysExchange 0 = .ok (.aload_n 0, 1) := by decide +kernel
theorem dX12_laysExchange_1 : decode cX12_laysExchange 1 = .ok (.invokevirtual 387, 3) := by decide +kernel
theorem dX12_laysExchange_4 : decode cX12_laysExchange 4 = .ok (.istore_n 1, 1) := by decide +kernel
theorem dX12_laysExchange_5 : decode cX12_laysExchange 5 = .ok (.aload_n 0, 1) := by decide +kernel
theorem dX12_laysExchange_6 : decode cX12_laysExchange 6 = .ok (.iconst (-1), 1) := by decide +kernel
theorem dX12_laysExchange_7 : decode cX12_laysExchange 7 = .ok (.putfield 402, 3) := by decide +kernel
theorem dX12_laysExchange_10 : decode cX12_laysExchange 10 = .ok (.aload_n 0, 1) := by decide +kernel
theorem dX12_laysExchange_11 : decode cX12_laysExchange 11 = .ok (.iconst (-1), 1) := by decide +kernel
theorem dX12_laysExchange_12 : decode cX12_laysExchange 12 = .ok (.putfield 405, 3) := by decide +kernel
theorem dX12_laysExchange_15 : decode cX12_laysExchange 15 = .ok (.iconst 0, 1) := by decide +kernel
theorem dX12_laysExchange_16 : decode cX12_laysExchange 16 = .ok (.istore_n 2, 1) := by decide +kernel
theorem dX12_laysExchange_17 : decode cX12_laysExchange 17 = .ok (.iload_n 2, 1) := by decide +kernel
theorem dX12_laysExchange_18 : decode cX12_laysExchange 18 = .ok (.aload_n 0, 1) := by decide +kernel
theorem dX12_laysExchange_19 : decode cX12_laysExchange 19 = .ok (.getfield 168, 3) := by decide +kernel
theorem dX12_laysExchange_22 : decode cX12_laysExchange 22 = .ok (.if_icmp .ge 108, 3) := by decide +kernel
theorem dX12_laysExchange_25 : decode cX12_laysExchange 25 = .ok (.aload_n 0, 1) := by decide +kernel
theorem dX12_laysExchange_26 : decode cX12_laysExchange 26 = .ok (.iload_n 2, 1) := by decide +kernel
theorem dX12_laysExchange_27 : decode cX12_laysExchange 27 = .ok (.invokevirtual 309, 3) := by decide +kernel
theorem dX12_laysExchange_30 : decode cX12_laysExchange 30 = .ok (.ifCond .ne 6, 3) := by decide +kernel
theorem dX12_laysExchange_33 : decode cX12_laysExchange 33 = .ok (.goto 91, 3) := by decide +kernel
theorem dX12_laysExchange_36 : decode cX12_laysExchange 36 = .ok (.aload_n 0, 1) := by decide +kernel
theorem dX12_laysExchange_37 : decode cX12_laysExchange 37 = .ok (.getfield 13, 3) := by decide +kernel
theorem dX12_laysExchange_40 : decode cX12_laysExchange 40 = .ok (.iload_n 2, 1) := by decide +kernel
theorem dX12_laysExchange_41 : decode cX12_laysExchange 41 = .ok (.iaload, 1) := by decide +kernel
theorem dX12_laysExchange_42 : decode cX12_laysExchange 42 = .ok (.istore_n 3, 1) := by decide +kernel
theorem dX12_laysExchange_43 : decode cX12_laysExchange 43 = .ok (.iconst 0, 1) := by decide +kernel
theorem dX12_laysExchange_44 : decode cX12_laysExchange 44 = .ok (.istore 4, 2) := by decide +kernel
theorem dX12_laysExchange_46 : decode cX12_laysExchange 46 = .ok (.iload 4, 2) := by decide +kernel
theorem dX12_laysExchange_48 : decode cX12_laysExchange 48 = .ok (.bipush 40, 2) := by decide +kernel
theorem dX12_laysExchange_50 : decode cX12_laysExchange 50 = .ok (.if_icmp .ge 74, 3) := by decide +kernel
theorem dX12_laysExchange_53 : decode cX12_laysExchange 53 = .ok (.aload_n 0, 1) := by decide +kernel
theorem dX12_laysExchange_54 : decode cX12_laysExchange 54 = .ok (.iload 4, 2) := by decide +kernel
theorem dX12_laysExchange_56 : decode cX12_laysExchange 56 = .ok (.invokevirtual 179, 3) := by decide +kernel
theorem dX12_laysExchange_59 : decode cX12_laysExchange 59 = .ok (.istore 5, 2) := by decide +kernel
theorem dX12_laysExchange_61 : decode cX12_laysExchange 61 = .ok (.iload 5, 2) := by decide +kernel
theorem dX12_laysExchange_63 : decode cX12_laysExchange 63 = .ok (.iconst (-1), 1) := by decide +kernel
theorem dX12_laysExchange_64 : decode cX12_laysExchange 64 = .ok (.if_icmp .eq 12, 3) := by decide +kernel
theorem dX12_laysExchange_67 : decode cX12_laysExchange 67 = .ok (.iload 5, 2) := by decide +kernel
theorem dX12_laysExchange_69 : decode cX12_laysExchange 69 = .ok (.iload_n 2, 1) := by decide +kernel
theorem dX12_laysExchange_70 : decode cX12_laysExchange 70 = .ok (.if_icmp .gt 6, 3) := by decide +kernel
theorem dX12_laysExchange_73 : decode cX12_laysExchange 73 = .ok (.goto 45, 3) := by decide +kernel
theorem dX12_laysExchange_76 : decode cX12_laysExchange 76 = .ok (.aload_n 0, 1) := by decide +kernel
theorem dX12_laysExchange_77 : decode cX12_laysExchange 77 = .ok (.iload_n 2, 1) := by decide +kernel
theorem dX12_laysExchange_78 : decode cX12_laysExchange 78 = .ok (.iload 4, 2) := by decide +kernel
theorem dX12_laysExchange_80 : decode cX12_laysExchange 80 = .ok (.invokevirtual 408, 3) := by decide +kernel
theorem dX12_laysExchange_83 : decode cX12_laysExchange 83 = .ok (.aload_n 0, 1) := by decide +kernel
theorem dX12_laysExchange_84 : decode cX12_laysExchange 84 = .ok (.invokevirtual 387, 3) := by decide +kernel
theorem dX12_laysExchange_87 : decode cX12_laysExchange 87 = .ok (.istore 6, 2) := by decide +kernel
theorem dX12_laysExchange_89 : decode cX12_laysExchange 89 = .ok (.aload_n 0, 1) := by decide +kernel
theorem dX12_laysExchange_90 : decode cX12_laysExchange 90 = .ok (.iload_n 2, 1) := by decide +kernel
theorem dX12_laysExchange_91 : decode cX12_laysExchange 91 = .ok (.iload_n 3, 1) := by decide +kernel
theorem dX12_laysExchange_92 : decode cX12_laysExchange 92 = .ok (.invokevirtual 408, 3) := by decide +kernel
theorem dX12_laysExchange_95 : decode cX12_laysExchange 95 = .ok (.iload 6, 2) := by decide +kernel
theorem dX12_laysExchange_97 : decode cX12_laysExchange 97 = .ok (.iload_n 1, 1) := by decide +kernel
theorem dX12_laysExchange_98 : decode cX12_laysExchange 98 = .ok (.if_icmp .lt 6, 3) := by decide +kernel
theorem dX12_laysExchange_101 : decode cX12_laysExchange 101 = .ok (.goto 17, 3) := by decide +kernel
theorem dX12_laysExchange_104 : decode cX12_laysExchange 104 = .ok (.iload 6, 2) := by decide +kernel
theorem dX12_laysExchange_106 : decode cX12_laysExchange 106 = .ok (.istore_n 1, 1) := by decide +kernel
theorem dX12_laysExchange_107 : decode cX12_laysExchange 107 = .ok (.aload_n 0, 1) := by decide +kernel
theorem dX12_laysExchange_108 : decode cX12_laysExchange 108 = .ok (.iload_n 2, 1) := by decide +kernel
theorem dX12_laysExchange_109 : decode cX12_laysExchange 109 = .ok (.putfield 402, 3) := by decide +kernel
theorem dX12_laysExchange_112 : decode cX12_laysExchange 112 = .ok (.aload_n 0, 1) := by decide +kernel
theorem dX12_laysExchange_113 : decode cX12_laysExchange 113 = .ok (.iload 4, 2) := by decide +kernel
theorem dX12_laysExchange_115 : decode cX12_laysExchange 115 = .ok (.putfield 405, 3) := by decide +kernel
theorem dX12_laysExchange_118 : decode cX12_laysExchange 118 = .ok (.iinc 4 1, 3) := by decide +kernel
theorem dX12_laysExchange_121 : decode cX12_laysExchange 121 = .ok (.goto (-75), 3) := by decide +kernel
theorem dX12_laysExchange_124 : decode cX12_laysExchange 124 = .ok (.iinc 2 1, 3) := by decide +kernel
theorem dX12_laysExchange_127 : decode cX12_laysExchange 127 = .ok (.goto (-110), 3) := by decide +kernel
theorem dX12_laysExchange_130 : decode cX12_laysExchange 130 = .ok (.iload_n 1, 1) := by decide +kernel
theorem dX12_laysExchange_131 : decode cX12_laysExchange 131 = .ok (.ireturn, 1) := by decide +kernel
theorem dX12_exchange_0 : decode cX12_exchange 0 = .ok (.iload_n 1, 1) := by decide +kernel
theorem dX12_exchange_1 : decode cX12_exchange 1 = .ok (.iconst 0, 1) := by decide +kernel
theorem dX12_exchange_2 : decode cX12_exchange 2 = .ok (.iconst 2, 1) := by decide +kernel
theorem dX12_exchange_3 : decode cX12_exchange 3 = .ok (.invokestatic 171, 3) := by decide +kernel
theorem dX12_exchange_6 : decode cX12_exchange 6 = .ok (.ifCond .ne 7, 3) := by decide +kernel
theorem dX12_exchange_9 : decode cX12_exchange 9 = .ok (.ldc_w 393, 3) := by decide +kernel
theorem dX12_exchange_12 : decode cX12_exchange 12 = .ok (.ireturn, 1) := by decide +kernel
theorem dX12_exchange_13 : decode cX12_exchange 13 = .ok (.aload_n 0, 1) := by decide +kernel
theorem dX12_exchange_14 : decode cX12_exchange 14 = .ok (.invokevirtual 411, 3) := by decide +kernel
theorem dX12_exchange_17 : decode cX12_exchange 17 = .ok (.istore_n 2, 1) := by decide +kernel
theorem dX12_exchange_18 : decode cX12_exchange 18 = .ok (.iload_n 1, 1) := by decide +kernel
theorem dX12_exchange_19 : decode cX12_exchange 19 = .ok (.iconst 2, 1) := by decide +kernel
theorem dX12_exchange_20 : decode cX12_exchange 20 = .ok (.if_icmp .ne 7, 3) := by decide +kernel
theorem dX12_exchange_23 : decode cX12_exchange 23 = .ok (.iload_n 2, 1) := by decide +kernel
theorem dX12_exchange_24 : decode cX12_exchange 24 = .ok (.goto 31, 3) := by decide +kernel
theorem dX12_exchange_27 : decode cX12_exchange 27 = .ok (.aload_n 0, 1) := by decide +kernel
theorem dX12_exchange_28 : decode cX12_exchange 28 = .ok (.getfield 402, 3) := by decide +kernel
theorem dX12_exchange_31 : decode cX12_exchange 31 = .ok (.iconst (-1), 1) := by decide +kernel
theorem dX12_exchange_32 : decode cX12_exchange 32 = .ok (.if_icmp .ne 8, 3) := by decide +kernel
theorem dX12_exchange_35 : decode cX12_exchange 35 = .ok (.bipush (-2), 2) := by decide +kernel
theorem dX12_exchange_37 : decode cX12_exchange 37 = .ok (.goto 18, 3) := by decide +kernel
theorem dX12_exchange_40 : decode cX12_exchange 40 = .ok (.iload_n 1, 1) := by decide +kernel
theorem dX12_exchange_41 : decode cX12_exchange 41 = .ok (.ifCond .ne 10, 3) := by decide +kernel
theorem dX12_exchange_44 : decode cX12_exchange 44 = .ok (.aload_n 0, 1) := by decide +kernel
theorem dX12_exchange_45 : decode cX12_exchange 45 = .ok (.getfield 402, 3) := by decide +kernel
theorem dX12_exchange_48 : decode cX12_exchange 48 = .ok (.goto 7, 3) := by decide +kernel
theorem dX12_exchange_51 : decode cX12_exchange 51 = .ok (.aload_n 0, 1) := by decide +kernel
theorem dX12_exchange_52 : decode cX12_exchange 52 = .ok (.getfield 405, 3) := by decide +kernel
theorem dX12_exchange_55 : decode cX12_exchange 55 = .ok (.ireturn, 1) := by decide +kernel
theorem dX12_exchanges_0 : decode cX12_exchanges 0 = .ok (.iconst 0, 1) := by decide +kernel
theorem dX12_exchanges_1 : decode cX12_exchanges 1 = .ok (.istore_n 1, 1) := by decide +kernel
theorem dX12_exchanges_2 : decode cX12_exchanges 2 = .ok (.aload_n 0, 1) := by decide +kernel
theorem dX12_exchanges_3 : decode cX12_exchanges 3 = .ok (.invokevirtual 411, 3) := by decide +kernel
theorem dX12_exchanges_6 : decode cX12_exchanges 6 = .ok (.pop, 1) := by decide +kernel
theorem dX12_exchanges_7 : decode cX12_exchanges 7 = .ok (.iload_n 1, 1) := by decide +kernel
theorem dX12_exchanges_8 : decode cX12_exchanges 8 = .ok (.bipush 50, 2) := by decide +kernel
theorem dX12_exchanges_10 : decode cX12_exchanges 10 = .ok (.if_icmp .ge 35, 3) := by decide +kernel
theorem dX12_exchanges_13 : decode cX12_exchanges 13 = .ok (.aload_n 0, 1) := by decide +kernel
theorem dX12_exchanges_14 : decode cX12_exchanges 14 = .ok (.getfield 402, 3) := by decide +kernel
theorem dX12_exchanges_17 : decode cX12_exchanges 17 = .ok (.iconst (-1), 1) := by decide +kernel
theorem dX12_exchanges_18 : decode cX12_exchanges 18 = .ok (.if_icmp .eq 27, 3) := by decide +kernel
theorem dX12_exchanges_21 : decode cX12_exchanges 21 = .ok (.aload_n 0, 1) := by decide +kernel
theorem dX12_exchanges_22 : decode cX12_exchanges 22 = .ok (.aload_n 0, 1) := by decide +kernel
theorem dX12_exchanges_23 : decode cX12_exchanges 23 = .ok (.getfield 402, 3) := by decide +kernel
theorem dX12_exchanges_26 : decode cX12_exchanges 26 = .ok (.aload_n 0, 1) := by decide +kernel
theorem dX12_exchanges_27 : decode cX12_exchanges 27 = .ok (.getfield 405, 3) := by decide +kernel
theorem dX12_exchanges_30 : decode cX12_exchanges 30 = .ok (.invokevirtual 408, 3) := by decide +kernel
theorem dX12_exchanges_33 : decode cX12_exchanges 33 = .ok (.iload_n 1, 1) := by decide +kernel
theorem dX12_exchanges_34 : decode cX12_exchanges 34 = .ok (.iconst 1, 1) := by decide +kernel
theorem dX12_exchanges_35 : decode cX12_exchanges 35 = .ok (.iadd, 1) := by decide +kernel
theorem dX12_exchanges_36 : decode cX12_exchanges 36 = .ok (.istore_n 1, 1) := by decide +kernel
theorem dX12_exchanges_37 : decode cX12_exchanges 37 = .ok (.aload_n 0, 1) := by decide +kernel
theorem dX12_exchanges_38 : decode cX12_exchanges 38 = .ok (.invokevirtual 411, 3) := by decide +kernel
theorem dX12_exchanges_41 : decode cX12_exchanges 41 = .ok (.pop, 1) := by decide +kernel
theorem dX12_exchanges_42 : decode cX12_exchanges 42 = .ok (.goto (-35), 3) := by decide +kernel
theorem dX12_exchanges_45 : decode cX12_exchanges 45 = .ok (.iload_n 1, 1) := by decide +kernel
theorem dX12_exchanges_46 : decode cX12_exchanges 46 = .ok (.ireturn, 1) := by decide +kernel
theorem dX12_isStray_0 : decode cX12_isStray 0 = .ok (.aload_n 0, 1) := by decide +kernel
theorem dX12_isStray_1 : decode cX12_isStray 1 = .ok (.iload_n 1, 1) := by decide +kernel
theorem dX12_isStray_2 : decode cX12_isStray 2 = .ok (.invokevirtual 309, 3) := by decide +kernel
theorem dX12_isStray_5 : decode cX12_isStray 5 = .ok (.ifCond .eq 24, 3) := by decide +kernel
theorem dX12_isStray_8 : decode cX12_isStray 8 = .ok (.aload_n 0, 1) := by decide +kernel
theorem dX12_isStray_9 : decode cX12_isStray 9 = .ok (.getfield 13, 3) := by decide +kernel
theorem dX12_isStray_12 : decode cX12_isStray 12 = .ok (.iload_n 1, 1) := by decide +kernel
theorem dX12_isStray_13 : decode cX12_isStray 13 = .ok (.iaload, 1) := by decide +kernel
theorem dX12_isStray_14 : decode cX12_isStray 14 = .ok (.iconst 2, 1) := by decide +kernel
theorem dX12_isStray_15 : decode cX12_isStray 15 = .ok (.irem, 1) := by decide +kernel
theorem dX12_isStray_16 : decode cX12_isStray 16 = .ok (.aload_n 0, 1) := by decide +kernel
theorem dX12_isStray_17 : decode cX12_isStray 17 = .ok (.getfield 7, 3) := by decide +kernel
theorem dX12_isStray_20 : decode cX12_isStray 20 = .ok (.iload_n 1, 1) := by decide +kernel
theorem dX12_isStray_21 : decode cX12_isStray 21 = .ok (.iaload, 1) := by decide +kernel
theorem dX12_isStray_22 : decode cX12_isStray 22 = .ok (.if_icmp .eq 7, 3) := by decide +kernel
theorem dX12_isStray_25 : decode cX12_isStray 25 = .ok (.iconst 1, 1) := by decide +kernel
theorem dX12_isStray_26 : decode cX12_isStray 26 = .ok (.goto 4, 3) := by decide +kernel
theorem dX12_isStray_29 : decode cX12_isStray 29 = .ok (.iconst 0, 1) := by decide +kernel
theorem dX12_isStray_30 : decode cX12_isStray 30 = .ok (.ireturn, 1) := by decide +kernel
theorem dX12_strays_0 : decode cX12_strays 0 = .ok (.iconst 0, 1) := by decide +kernel
theorem dX12_strays_1 : decode cX12_strays 1 = .ok (.istore_n 1, 1) := by decide +kernel
theorem dX12_strays_2 : decode cX12_strays 2 = .ok (.iconst 0, 1) := by decide +kernel
theorem dX12_strays_3 : decode cX12_strays 3 = .ok (.istore_n 2, 1) := by decide +kernel
theorem dX12_strays_4 : decode cX12_strays 4 = .ok (.iload_n 2, 1) := by decide +kernel
theorem dX12_strays_5 : decode cX12_strays 5 = .ok (.aload_n 0, 1) := by decide +kernel
theorem dX12_strays_6 : decode cX12_strays 6 = .ok (.getfield 168, 3) := by decide +kernel
theorem dX12_strays_9 : decode cX12_strays 9 = .ok (.if_icmp .ge 27, 3) := by decide +kernel
theorem dX12_strays_12 : decode cX12_strays 12 = .ok (.aload_n 0, 1) := by decide +kernel
theorem dX12_strays_13 : decode cX12_strays 13 = .ok (.iload_n 2, 1) := by decide +kernel
theorem dX12_strays_14 : decode cX12_strays 14 = .ok (.invokevirtual 414, 3) := by decide +kernel
theorem dX12_strays_17 : decode cX12_strays 17 = .ok (.ifCond .eq 11, 3) := by decide +kernel
theorem dX12_strays_20 : decode cX12_strays 20 = .ok (.iload_n 1, 1) := by decide +kernel
theorem dX12_strays_21 : decode cX12_strays 21 = .ok (.iconst 1, 1) := by decide +kernel
theorem dX12_strays_22 : decode cX12_strays 22 = .ok (.iload_n 2, 1) := by decide +kernel
theorem dX12_strays_23 : decode cX12_strays 23 = .ok (.ishl, 1) := by decide +kernel
theorem dX12_strays_24 : decode cX12_strays 24 = .ok (.ior, 1) := by decide +kernel
theorem dX12_strays_25 : decode cX12_strays 25 = .ok (.goto 4, 3) := by decide +kernel
theorem dX12_strays_28 : decode cX12_strays 28 = .ok (.iload_n 1, 1) := by decide +kernel
theorem dX12_strays_29 : decode cX12_strays 29 = .ok (.istore_n 1, 1) := by decide +kernel
theorem dX12_strays_30 : decode cX12_strays 30 = .ok (.iinc 2 1, 3) := by decide +kernel
theorem dX12_strays_33 : decode cX12_strays 33 = .ok (.goto (-29), 3) := by decide +kernel
theorem dX12_strays_36 : decode cX12_strays 36 = .ok (.iload_n 1, 1) := by decide +kernel
theorem dX12_strays_37 : decode cX12_strays 37 = .ok (.ireturn, 1) := by decide +kernel
theorem dX12_home_0 : decode cX12_home 0 = .ok (.iconst 0, 1) := by decide +kernel
theorem dX12_home_1 : decode cX12_home 1 = .ok (.istore_n 1, 1) := by decide +kernel
theorem dX12_home_2 : decode cX12_home 2 = .ok (.iconst 0, 1) := by decide +kernel
theorem dX12_home_3 : decode cX12_home 3 = .ok (.istore_n 2, 1) := by decide +kernel
theorem dX12_home_4 : decode cX12_home 4 = .ok (.iconst 0, 1) := by decide +kernel
theorem dX12_home_5 : decode cX12_home 5 = .ok (.istore_n 3, 1) := by decide +kernel
theorem dX12_home_6 : decode cX12_home 6 = .ok (.iload_n 3, 1) := by decide +kernel
theorem dX12_home_7 : decode cX12_home 7 = .ok (.aload_n 0, 1) := by decide +kernel
theorem dX12_home_8 : decode cX12_home 8 = .ok (.getfield 168, 3) := by decide +kernel
theorem dX12_home_11 : decode cX12_home 11 = .ok (.if_icmp .ge 60, 3) := by decide +kernel
theorem dX12_home_14 : decode cX12_home 14 = .ok (.iload_n 1, 1) := by decide +kernel
theorem dX12_home_15 : decode cX12_home 15 = .ok (.aload_n 0, 1) := by decide +kernel
theorem dX12_home_16 : decode cX12_home 16 = .ok (.iload_n 3, 1) := by decide +kernel
theorem dX12_home_17 : decode cX12_home 17 = .ok (.invokevirtual 414, 3) := by decide +kernel
theorem dX12_home_20 : decode cX12_home 20 = .ok (.ifCond .eq 16, 3) := by decide +kernel
theorem dX12_home_23 : decode cX12_home 23 = .ok (.aload_n 0, 1) := by decide +kernel
theorem dX12_home_24 : decode cX12_home 24 = .ok (.getfield 7, 3) := by decide +kernel
theorem dX12_home_27 : decode cX12_home 27 = .ok (.iload_n 3, 1) := by decide +kernel
theorem dX12_home_28 : decode cX12_home 28 = .ok (.iaload, 1) := by decide +kernel
theorem dX12_home_29 : decode cX12_home 29 = .ok (.ifCond .ne 7, 3) := by decide +kernel
theorem dX12_home_32 : decode cX12_home 32 = .ok (.iconst 1, 1) := by decide +kernel
theorem dX12_home_33 : decode cX12_home 33 = .ok (.goto 4, 3) := by decide +kernel
theorem dX12_home_36 : decode cX12_home 36 = .ok (.iconst 0, 1) := by decide +kernel
theorem dX12_home_37 : decode cX12_home 37 = .ok (.iadd, 1) := by decide +kernel
theorem dX12_home_38 : decode cX12_home 38 = .ok (.istore_n 1, 1) := by decide +kernel
theorem dX12_home_39 : decode cX12_home 39 = .ok (.iload_n 2, 1) := by decide +kernel
theorem dX12_home_40 : decode cX12_home 40 = .ok (.aload_n 0, 1) := by decide +kernel
theorem dX12_home_41 : decode cX12_home 41 = .ok (.iload_n 3, 1) := by decide +kernel
theorem dX12_home_42 : decode cX12_home 42 = .ok (.invokevirtual 414, 3) := by decide +kernel
theorem dX12_home_45 : decode cX12_home 45 = .ok (.ifCond .eq 17, 3) := by decide +kernel
theorem dX12_home_48 : decode cX12_home 48 = .ok (.aload_n 0, 1) := by decide +kernel
theorem dX12_home_49 : decode cX12_home 49 = .ok (.getfield 7, 3) := by decide +kernel
theorem dX12_home_52 : decode cX12_home 52 = .ok (.iload_n 3, 1) := by decide +kernel
theorem dX12_home_53 : decode cX12_home 53 = .ok (.iaload, 1) := by decide +kernel
theorem dX12_home_54 : decode cX12_home 54 = .ok (.iconst 1, 1) := by decide +kernel
theorem dX12_home_55 : decode cX12_home 55 = .ok (.if_icmp .ne 7, 3) := by decide +kernel
theorem dX12_home_58 : decode cX12_home 58 = .ok (.iconst 1, 1) := by decide +kernel
theorem dX12_home_59 : decode cX12_home 59 = .ok (.goto 4, 3) := by decide +kernel
theorem dX12_home_62 : decode cX12_home 62 = .ok (.iconst 0, 1) := by decide +kernel
theorem dX12_home_63 : decode cX12_home 63 = .ok (.iadd, 1) := by decide +kernel
theorem dX12_home_64 : decode cX12_home 64 = .ok (.istore_n 2, 1) := by decide +kernel
theorem dX12_home_65 : decode cX12_home 65 = .ok (.iinc 3 1, 3) := by decide +kernel
theorem dX12_home_68 : decode cX12_home 68 = .ok (.goto (-62), 3) := by decide +kernel
theorem dX12_home_71 : decode cX12_home 71 = .ok (.iload_n 1, 1) := by decide +kernel
theorem dX12_home_72 : decode cX12_home 72 = .ok (.iload_n 2, 1) := by decide +kernel
theorem dX12_home_73 : decode cX12_home 73 = .ok (.if_icmp .le 7, 3) := by decide +kernel
theorem dX12_home_76 : decode cX12_home 76 = .ok (.iload_n 1, 1) := by decide +kernel
theorem dX12_home_77 : decode cX12_home 77 = .ok (.goto 4, 3) := by decide +kernel
theorem dX12_home_80 : decode cX12_home 80 = .ok (.iload_n 2, 1) := by decide +kernel
theorem dX12_home_81 : decode cX12_home 81 = .ok (.ireturn, 1) := by decide +kernel
theorem dX12_heir_0 : decode cX12_heir 0 = .ok (.aload_n 0, 1) := by decide +kernel
theorem dX12_heir_1 : decode cX12_heir 1 = .ok (.iload_n 1, 1) := by decide +kernel
theorem dX12_heir_2 : decode cX12_heir 2 = .ok (.invokevirtual 183, 3) := by decide +kernel
theorem dX12_heir_5 : decode cX12_heir 5 = .ok (.ifCond .eq 21, 3) := by decide +kernel
theorem dX12_heir_8 : decode cX12_heir 8 = .ok (.iload_n 2, 1) := by decide +kernel
theorem dX12_heir_9 : decode cX12_heir 9 = .ok (.iconst (-1), 1) := by decide +kernel
theorem dX12_heir_10 : decode cX12_heir 10 = .ok (.if_icmp .eq 11, 3) := by decide +kernel
theorem dX12_heir_13 : decode cX12_heir 13 = .ok (.aload_n 0, 1) := by decide +kernel
theorem dX12_heir_14 : decode cX12_heir 14 = .ok (.iload_n 2, 1) := by decide +kernel
theorem dX12_heir_15 : decode cX12_heir 15 = .ok (.invokevirtual 183, 3) := by decide +kernel
theorem dX12_heir_18 : decode cX12_heir 18 = .ok (.ifCond .eq 8, 3) := by decide +kernel
theorem dX12_heir_21 : decode cX12_heir 21 = .ok (.iload_n 1, 1) := by decide +kernel
theorem dX12_heir_22 : decode cX12_heir 22 = .ok (.iload_n 2, 1) := by decide +kernel
theorem dX12_heir_23 : decode cX12_heir 23 = .ok (.if_icmp .ne 5, 3) := by decide +kernel
theorem dX12_heir_26 : decode cX12_heir 26 = .ok (.iconst 0, 1) := by decide +kernel
theorem dX12_heir_27 : decode cX12_heir 27 = .ok (.ireturn, 1) := by decide +kernel
theorem dX12_heir_28 : decode cX12_heir 28 = .ok (.aload_n 0, 1) := by decide +kernel
theorem dX12_heir_29 : decode cX12_heir 29 = .ok (.getfield 19, 3) := by decide +kernel
theorem dX12_heir_32 : decode cX12_heir 32 = .ok (.iload_n 1, 1) := by decide +kernel
theorem dX12_heir_33 : decode cX12_heir 33 = .ok (.iload_n 2, 1) := by decide +kernel
theorem dX12_heir_34 : decode cX12_heir 34 = .ok (.iastore, 1) := by decide +kernel
theorem dX12_heir_35 : decode cX12_heir 35 = .ok (.iconst 1, 1) := by decide +kernel
theorem dX12_heir_36 : decode cX12_heir 36 = .ok (.ireturn, 1) := by decide +kernel
theorem dX12_dies_0 : decode cX12_dies 0 = .ok (.aload_n 0, 1) := by decide +kernel
theorem dX12_dies_1 : decode cX12_dies 1 = .ok (.iload_n 1, 1) := by decide +kernel
theorem dX12_dies_2 : decode cX12_dies 2 = .ok (.invokevirtual 183, 3) := by decide +kernel
theorem dX12_dies_5 : decode cX12_dies 5 = .ok (.ifCond .eq 14, 3) := by decide +kernel
theorem dX12_dies_8 : decode cX12_dies 8 = .ok (.aload_n 0, 1) := by decide +kernel
theorem dX12_dies_9 : decode cX12_dies 9 = .ok (.getfield 13, 3) := by decide +kernel
theorem dX12_dies_12 : decode cX12_dies 12 = .ok (.iload_n 1, 1) := by decide +kernel
theorem dX12_dies_13 : decode cX12_dies 13 = .ok (.iaload, 1) := by decide +kernel
theorem dX12_dies_14 : decode cX12_dies 14 = .ok (.bipush (-2), 2) := by decide +kernel
theorem dX12_dies_16 : decode cX12_dies 16 = .ok (.if_icmp .ne 5, 3) := by decide +kernel
theorem dX12_dies_19 : decode cX12_dies 19 = .ok (.iconst (-1), 1) := by decide +kernel
theorem dX12_dies_20 : decode cX12_dies 20 = .ok (.ireturn, 1) := by decide +kernel
theorem dX12_dies_21 : decode cX12_dies 21 = .ok (.aload_n 0, 1) := by decide +kernel
theorem dX12_dies_22 : decode cX12_dies 22 = .ok (.getfield 13, 3) := by decide +kernel
theorem dX12_dies_25 : decode cX12_dies 25 = .ok (.iload_n 1, 1) := by decide +kernel
theorem dX12_dies_26 : decode cX12_dies 26 = .ok (.iaload, 1) := by decide +kernel
theorem dX12_dies_27 : decode cX12_dies 27 = .ok (.istore_n 2, 1) := by decide +kernel
theorem dX12_dies_28 : decode cX12_dies 28 = .ok (.aload_n 0, 1) := by decide +kernel
theorem dX12_dies_29 : decode cX12_dies 29 = .ok (.getfield 13, 3) := by decide +kernel
theorem dX12_dies_32 : decode cX12_dies 32 = .ok (.iload_n 1, 1) := by decide +kernel
theorem dX12_dies_33 : decode cX12_dies 33 = .ok (.bipush (-2), 2) := by decide +kernel
theorem dX12_dies_35 : decode cX12_dies 35 = .ok (.iastore, 1) := by decide +kernel
theorem dX12_dies_36 : decode cX12_dies 36 = .ok (.iload_n 2, 1) := by decide +kernel
theorem dX12_dies_37 : decode cX12_dies 37 = .ok (.iconst (-1), 1) := by decide +kernel
theorem dX12_dies_38 : decode cX12_dies 38 = .ok (.if_icmp .ne 6, 3) := by decide +kernel
theorem dX12_dies_41 : decode cX12_dies 41 = .ok (.bipush (-2), 2) := by decide +kernel
theorem dX12_dies_43 : decode cX12_dies 43 = .ok (.ireturn, 1) := by decide +kernel
theorem dX12_dies_44 : decode cX12_dies 44 = .ok (.aload_n 0, 1) := by decide +kernel
theorem dX12_dies_45 : decode cX12_dies 45 = .ok (.getfield 19, 3) := by decide +kernel
theorem dX12_dies_48 : decode cX12_dies 48 = .ok (.iload_n 1, 1) := by decide +kernel
theorem dX12_dies_49 : decode cX12_dies 49 = .ok (.iaload, 1) := by decide +kernel
theorem dX12_dies_50 : decode cX12_dies 50 = .ok (.istore_n 3, 1) := by decide +kernel
theorem dX12_dies_51 : decode cX12_dies 51 = .ok (.iconst 0, 1) := by decide +kernel
theorem dX12_dies_52 : decode cX12_dies 52 = .ok (.istore 4, 2) := by decide +kernel
theorem dX12_dies_54 : decode cX12_dies 54 = .ok (.iload 4, 2) := by decide +kernel
theorem dX12_dies_56 : decode cX12_dies 56 = .ok (.bipush 15, 2) := by decide +kernel
theorem dX12_dies_58 : decode cX12_dies 58 = .ok (.if_icmp .ge 40, 3) := by decide +kernel
theorem dX12_dies_61 : decode cX12_dies 61 = .ok (.iload_n 3, 1) := by decide +kernel
theorem dX12_dies_62 : decode cX12_dies 62 = .ok (.iconst (-1), 1) := by decide +kernel
theorem dX12_dies_63 : decode cX12_dies 63 = .ok (.if_icmp .eq 35, 3) := by decide +kernel
theorem dX12_dies_66 : decode cX12_dies 66 = .ok (.aload_n 0, 1) := by decide +kernel
theorem dX12_dies_67 : decode cX12_dies 67 = .ok (.getfield 13, 3) := by decide +kernel
theorem dX12_dies_70 : decode cX12_dies 70 = .ok (.iload_n 3, 1) := by decide +kernel
theorem dX12_dies_71 : decode cX12_dies 71 = .ok (.iaload, 1) := by decide +kernel
theorem dX12_dies_72 : decode cX12_dies 72 = .ok (.iconst (-1), 1) := by decide +kernel
theorem dX12_dies_73 : decode cX12_dies 73 = .ok (.if_icmp .ne 12, 3) := by decide +kernel
theorem dX12_dies_76 : decode cX12_dies 76 = .ok (.aload_n 0, 1) := by decide +kernel
theorem dX12_dies_77 : decode cX12_dies 77 = .ok (.getfield 13, 3) := by decide +kernel
theorem dX12_dies_80 : decode cX12_dies 80 = .ok (.iload_n 3, 1) := by decide +kernel
theorem dX12_dies_81 : decode cX12_dies 81 = .ok (.iload_n 2, 1) := by decide +kernel
theorem dX12_dies_82 : decode cX12_dies 82 = .ok (.iastore, 1) := by decide +kernel
theorem dX12_dies_83 : decode cX12_dies 83 = .ok (.iload_n 3, 1) := by decide +kernel
theorem dX12_dies_84 : decode cX12_dies 84 = .ok (.ireturn, 1) := by decide +kernel
theorem dX12_dies_85 : decode cX12_dies 85 = .ok (.aload_n 0, 1) := by decide +kernel
theorem dX12_dies_86 : decode cX12_dies 86 = .ok (.getfield 19, 3) := by decide +kernel
theorem dX12_dies_89 : decode cX12_dies 89 = .ok (.iload_n 3, 1) := by decide +kernel
theorem dX12_dies_90 : decode cX12_dies 90 = .ok (.iaload, 1) := by decide +kernel
theorem dX12_dies_91 : decode cX12_dies 91 = .ok (.istore_n 3, 1) := by decide +kernel
theorem dX12_dies_92 : decode cX12_dies 92 = .ok (.iinc 4 1, 3) := by decide +kernel
theorem dX12_dies_95 : decode cX12_dies 95 = .ok (.goto (-41), 3) := by decide +kernel
theorem dX12_dies_98 : decode cX12_dies 98 = .ok (.bipush (-2), 2) := by decide +kernel
theorem dX12_dies_100 : decode cX12_dies 100 = .ok (.ireturn, 1) := by decide +kernel
theorem dX12_knives_0 : decode cX12_knives 0 = .ok (.iload_n 1, 1) := by decide +kernel
theorem dX12_knives_1 : decode cX12_knives 1 = .ok (.invokestatic 175, 3) := by decide +kernel
theorem dX12_knives_4 : decode cX12_knives 4 = .ok (.ifCond .eq 13, 3) := by decide +kernel
theorem dX12_knives_7 : decode cX12_knives 7 = .ok (.iload_n 2, 1) := by decide +kernel
theorem dX12_knives_8 : decode cX12_knives 8 = .ok (.iconst 0, 1) := by decide +kernel
theorem dX12_knives_9 : decode cX12_knives 9 = .ok (.bipush 9, 2) := by decide +kernel
theorem dX12_knives_11 : decode cX12_knives 11 = .ok (.invokestatic 171, 3) := by decide +kernel
theorem dX12_knives_14 : decode cX12_knives 14 = .ok (.ifCond .ne 5, 3) := by decide +kernel
theorem dX12_knives_17 : decode cX12_knives 17 = .ok (.iconst 0, 1) := by decide +kernel
theorem dX12_knives_18 : decode cX12_knives 18 = .ok (.ireturn, 1) := by decide +kernel
theorem dX12_knives_19 : decode cX12_knives 19 = .ok (.aload_n 0, 1) := by decide +kernel
theorem dX12_knives_20 : decode cX12_knives 20 = .ok (.getfield 101, 3) := by decide +kernel
theorem dX12_knives_23 : decode cX12_knives 23 = .ok (.iload_n 1, 1) := by decide +kernel
theorem dX12_knives_24 : decode cX12_knives 24 = .ok (.iload_n 2, 1) := by decide +kernel
theorem dX12_knives_25 : decode cX12_knives 25 = .ok (.iastore, 1) := by decide +kernel
theorem dX12_knives_26 : decode cX12_knives 26 = .ok (.iconst 1, 1) := by decide +kernel
theorem dX12_knives_27 : decode cX12_knives 27 = .ok (.ireturn, 1) := by decide +kernel
theorem dX12_put_0 : decode cX12_put 0 = .ok (.iload_n 1, 1) := by decide +kernel
theorem dX12_put_1 : decode cX12_put 1 = .ok (.invokestatic 175, 3) := by decide +kernel
theorem dX12_put_4 : decode cX12_put 4 = .ok (.ifCond .eq 43, 3) := by decide +kernel
theorem dX12_put_7 : decode cX12_put 7 = .ok (.iload_n 2, 1) := by decide +kernel
theorem dX12_put_8 : decode cX12_put 8 = .ok (.invokestatic 175, 3) := by decide +kernel
theorem dX12_put_11 : decode cX12_put 11 = .ok (.ifCond .eq 36, 3) := by decide +kernel
theorem dX12_put_14 : decode cX12_put 14 = .ok (.iload_n 1, 1) := by decide +kernel
theorem dX12_put_15 : decode cX12_put 15 = .ok (.iload_n 2, 1) := by decide +kernel
theorem dX12_put_16 : decode cX12_put 16 = .ok (.if_icmp .eq 31, 3) := by decide +kernel
theorem dX12_put_19 : decode cX12_put 19 = .ok (.iload_n 3, 1) := by decide +kernel
theorem dX12_put_20 : decode cX12_put 20 = .ok (.iconst 1, 1) := by decide +kernel
theorem dX12_put_21 : decode cX12_put 21 = .ok (.if_icmp .lt 26, 3) := by decide +kernel
theorem dX12_put_24 : decode cX12_put 24 = .ok (.iload_n 3, 1) := by decide +kernel
theorem dX12_put_25 : decode cX12_put 25 = .ok (.aload_n 0, 1) := by decide +kernel
theorem dX12_put_26 : decode cX12_put 26 = .ok (.getfield 101, 3) := by decide +kernel
theorem dX12_put_29 : decode cX12_put 29 = .ok (.iload_n 1, 1) := by decide +kernel
theorem dX12_put_30 : decode cX12_put 30 = .ok (.iaload, 1) := by decide +kernel
theorem dX12_put_31 : decode cX12_put 31 = .ok (.if_icmp .gt 16, 3) := by decide +kernel
theorem dX12_put_34 : decode cX12_put 34 = .ok (.aload_n 0, 1) := by decide +kernel
theorem dX12_put_35 : decode cX12_put 35 = .ok (.getfield 101, 3) := by decide +kernel
theorem dX12_put_38 : decode cX12_put 38 = .ok (.iload_n 2, 1) := by decide +kernel
theorem dX12_put_39 : decode cX12_put 39 = .ok (.iaload, 1) := by decide +kernel
theorem dX12_put_40 : decode cX12_put 40 = .ok (.iload_n 3, 1) := by decide +kernel
theorem dX12_put_41 : decode cX12_put 41 = .ok (.iadd, 1) := by decide +kernel
theorem dX12_put_42 : decode cX12_put 42 = .ok (.bipush 99, 2) := by decide +kernel
theorem dX12_put_44 : decode cX12_put 44 = .ok (.if_icmp .le 5, 3) := by decide +kernel
theorem dX12_put_47 : decode cX12_put 47 = .ok (.iconst 0, 1) := by decide +kernel
theorem dX12_put_48 : decode cX12_put 48 = .ok (.ireturn, 1) := by decide +kernel
theorem dX12_put_49 : decode cX12_put 49 = .ok (.aload_n 0, 1) := by decide +kernel
theorem dX12_put_50 : decode cX12_put 50 = .ok (.getfield 101, 3) := by decide +kernel
theorem dX12_put_53 : decode cX12_put 53 = .ok (.iload_n 1, 1) := by decide +kernel
theorem dX12_put_54 : decode cX12_put 54 = .ok (.aload_n 0, 1) := by decide +kernel
theorem dX12_put_55 : decode cX12_put 55 = .ok (.getfield 101, 3) := by decide +kernel
theorem dX12_put_58 : decode cX12_put 58 = .ok (.iload_n 1, 1) := by decide +kernel
theorem dX12_put_59 : decode cX12_put 59 = .ok (.iaload, 1) := by decide +kernel
theorem dX12_put_60 : decode cX12_put 60 = .ok (.iload_n 3, 1) := by decide +kernel
theorem dX12_put_61 : decode cX12_put 61 = .ok (.isub, 1) := by decide +kernel
theorem dX12_put_62 : decode cX12_put 62 = .ok (.iastore, 1) := by decide +kernel
theorem dX12_put_63 : decode cX12_put 63 = .ok (.aload_n 0, 1) := by decide +kernel
theorem dX12_put_64 : decode cX12_put 64 = .ok (.getfield 101, 3) := by decide +kernel
theorem dX12_put_67 : decode cX12_put 67 = .ok (.iload_n 2, 1) := by decide +kernel
theorem dX12_put_68 : decode cX12_put 68 = .ok (.aload_n 0, 1) := by decide +kernel
theorem dX12_put_69 : decode cX12_put 69 = .ok (.getfield 101, 3) := by decide +kernel
theorem dX12_put_72 : decode cX12_put 72 = .ok (.iload_n 2, 1) := by decide +kernel
theorem dX12_put_73 : decode cX12_put 73 = .ok (.iaload, 1) := by decide +kernel
theorem dX12_put_74 : decode cX12_put 74 = .ok (.iload_n 3, 1) := by decide +kernel
theorem dX12_put_75 : decode cX12_put 75 = .ok (.iadd, 1) := by decide +kernel
theorem dX12_put_76 : decode cX12_put 76 = .ok (.iastore, 1) := by decide +kernel
theorem dX12_put_77 : decode cX12_put 77 = .ok (.iconst 1, 1) := by decide +kernel
theorem dX12_put_78 : decode cX12_put 78 = .ok (.ireturn, 1) := by decide +kernel
theorem dX12_counted_0 : decode cX12_counted 0 = .ok (.iload_n 1, 1) := by decide +kernel
theorem dX12_counted_1 : decode cX12_counted 1 = .ok (.iconst 0, 1) := by decide +kernel
theorem dX12_counted_2 : decode cX12_counted 2 = .ok (.iconst 1, 1) := by decide +kernel
theorem dX12_counted_3 : decode cX12_counted 3 = .ok (.invokestatic 171, 3) := by decide +kernel
theorem dX12_counted_6 : decode cX12_counted 6 = .ok (.ifCond .eq 43, 3) := by decide +kernel
theorem dX12_counted_9 : decode cX12_counted 9 = .ok (.iload_n 2, 1) := by decide +kernel
theorem dX12_counted_10 : decode cX12_counted 10 = .ok (.invokestatic 333, 3) := by decide +kernel
theorem dX12_counted_13 : decode cX12_counted 13 = .ok (.ifCond .eq 36, 3) := by decide +kernel
theorem dX12_counted_16 : decode cX12_counted 16 = .ok (.iload_n 3, 1) := by decide +kernel
theorem dX12_counted_17 : decode cX12_counted 17 = .ok (.invokestatic 333, 3) := by decide +kernel
theorem dX12_counted_20 : decode cX12_counted 20 = .ok (.ifCond .eq 29, 3) := by decide +kernel
theorem dX12_counted_23 : decode cX12_counted 23 = .ok (.iload_n 3, 1) := by decide +kernel
theorem dX12_counted_24 : decode cX12_counted 24 = .ok (.iload_n 2, 1) := by decide +kernel
theorem dX12_counted_25 : decode cX12_counted 25 = .ok (.if_icmp .lt 24, 3) := by decide +kernel
theorem dX12_counted_28 : decode cX12_counted 28 = .ok (.iload 4, 2) := by decide +kernel
theorem dX12_counted_30 : decode cX12_counted 30 = .ok (.iconst 0, 1) := by decide +kernel
theorem dX12_counted_31 : decode cX12_counted 31 = .ok (.sipush 999, 3) := by decide +kernel
theorem dX12_counted_34 : decode cX12_counted 34 = .ok (.invokestatic 171, 3) := by decide +kernel
theorem dX12_counted_37 : decode cX12_counted 37 = .ok (.ifCond .eq 12, 3) := by decide +kernel
theorem dX12_counted_40 : decode cX12_counted 40 = .ok (.aload_n 0, 1) := by decide +kernel
theorem dX12_counted_41 : decode cX12_counted 41 = .ok (.getfield 417, 3) := by decide +kernel
theorem dX12_counted_44 : decode cX12_counted 44 = .ok (.bipush 20, 2) := by decide +kernel
theorem dX12_counted_46 : decode cX12_counted 46 = .ok (.if_icmp .ne 5, 3) := by decide +kernel
theorem dX12_counted_49 : decode cX12_counted 49 = .ok (.iconst (-1), 1) := by decide +kernel
theorem dX12_counted_50 : decode cX12_counted 50 = .ok (.ireturn, 1) := by decide +kernel
theorem dX12_counted_51 : decode cX12_counted 51 = .ok (.aload_n 0, 1) := by decide +kernel
theorem dX12_counted_52 : decode cX12_counted 52 = .ok (.getfield 104, 3) := by decide +kernel
theorem dX12_counted_55 : decode cX12_counted 55 = .ok (.aload_n 0, 1) := by decide +kernel
theorem dX12_counted_56 : decode cX12_counted 56 = .ok (.getfield 417, 3) := by decide +kernel
theorem dX12_counted_59 : decode cX12_counted 59 = .ok (.iload_n 1, 1) := by decide +kernel
theorem dX12_counted_60 : decode cX12_counted 60 = .ok (.iastore, 1) := by decide +kernel
theorem dX12_counted_61 : decode cX12_counted 61 = .ok (.aload_n 0, 1) := by decide +kernel
theorem dX12_counted_62 : decode cX12_counted 62 = .ok (.getfield 107, 3) := by decide +kernel
theorem dX12_counted_65 : decode cX12_counted 65 = .ok (.aload_n 0, 1) := by decide +kernel
theorem dX12_counted_66 : decode cX12_counted 66 = .ok (.getfield 417, 3) := by decide +kernel
theorem dX12_counted_69 : decode cX12_counted 69 = .ok (.iload_n 2, 1) := by decide +kernel
theorem dX12_counted_70 : decode cX12_counted 70 = .ok (.iastore, 1) := by decide +kernel
theorem dX12_counted_71 : decode cX12_counted 71 = .ok (.aload_n 0, 1) := by decide +kernel
theorem dX12_counted_72 : decode cX12_counted 72 = .ok (.getfield 110, 3) := by decide +kernel
theorem dX12_counted_75 : decode cX12_counted 75 = .ok (.aload_n 0, 1) := by decide +kernel
theorem dX12_counted_76 : decode cX12_counted 76 = .ok (.getfield 417, 3) := by decide +kernel
theorem dX12_counted_79 : decode cX12_counted 79 = .ok (.iload_n 3, 1) := by decide +kernel
theorem dX12_counted_80 : decode cX12_counted 80 = .ok (.iastore, 1) := by decide +kernel
theorem dX12_counted_81 : decode cX12_counted 81 = .ok (.aload_n 0, 1) := by decide +kernel
theorem dX12_counted_82 : decode cX12_counted 82 = .ok (.getfield 113, 3) := by decide +kernel
theorem dX12_counted_85 : decode cX12_counted 85 = .ok (.aload_n 0, 1) := by decide +kernel
theorem dX12_counted_86 : decode cX12_counted 86 = .ok (.getfield 417, 3) := by decide +kernel
theorem dX12_counted_89 : decode cX12_counted 89 = .ok (.iload 4, 2) := by decide +kernel
theorem dX12_counted_91 : decode cX12_counted 91 = .ok (.iastore, 1) := by decide +kernel
theorem dX12_counted_92 : decode cX12_counted 92 = .ok (.aload_n 0, 1) := by decide +kernel
theorem dX12_counted_93 : decode cX12_counted 93 = .ok (.aload_n 0, 1) := by decide +kernel
theorem dX12_counted_94 : decode cX12_counted 94 = .ok (.getfield 417, 3) := by decide +kernel
theorem dX12_counted_97 : decode cX12_counted 97 = .ok (.iconst 1, 1) := by decide +kernel
theorem dX12_counted_98 : decode cX12_counted 98 = .ok (.iadd, 1) := by decide +kernel
theorem dX12_counted_99 : decode cX12_counted 99 = .ok (.putfield 417, 3) := by decide +kernel
theorem dX12_counted_102 : decode cX12_counted 102 = .ok (.aload_n 0, 1) := by decide +kernel
theorem dX12_counted_103 : decode cX12_counted 103 = .ok (.getfield 417, 3) := by decide +kernel
theorem dX12_counted_106 : decode cX12_counted 106 = .ok (.ireturn, 1) := by decide +kernel
theorem dX12_knivesFrom_0 : decode cX12_knivesFrom 0 = .ok (.iconst 0, 1) := by decide +kernel
theorem dX12_knivesFrom_1 : decode cX12_knivesFrom 1 = .ok (.istore 4, 2) := by decide +kernel
theorem dX12_knivesFrom_3 : decode cX12_knivesFrom 3 = .ok (.iload_n 2, 1) := by decide +kernel
theorem dX12_knivesFrom_4 : decode cX12_knivesFrom 4 = .ok (.istore 5, 2) := by decide +kernel
theorem dX12_knivesFrom_6 : decode cX12_knivesFrom 6 = .ok (.iload 5, 2) := by decide +kernel
theorem dX12_knivesFrom_8 : decode cX12_knivesFrom 8 = .ok (.iload_n 3, 1) := by decide +kernel
theorem dX12_knivesFrom_9 : decode cX12_knivesFrom 9 = .ok (.if_icmp .gt 25, 3) := by decide +kernel
theorem dX12_knivesFrom_12 : decode cX12_knivesFrom 12 = .ok (.iload 4, 2) := by decide +kernel
theorem dX12_knivesFrom_14 : decode cX12_knivesFrom 14 = .ok (.aload_n 0, 1) := by decide +kernel
theorem dX12_knivesFrom_15 : decode cX12_knivesFrom 15 = .ok (.getfield 101, 3) := by decide +kernel
theorem dX12_knivesFrom_18 : decode cX12_knivesFrom 18 = .ok (.iconst 2, 1) := by decide +kernel
theorem dX12_knivesFrom_19 : decode cX12_knivesFrom 19 = .ok (.iload 5, 2) := by decide +kernel
theorem dX12_knivesFrom_21 : decode cX12_knivesFrom 21 = .ok (.imul, 1) := by decide +kernel
theorem dX12_knivesFrom_22 : decode cX12_knivesFrom 22 = .ok (.iload_n 1, 1) := by decide +kernel
theorem dX12_knivesFrom_23 : decode cX12_knivesFrom 23 = .ok (.iadd, 1) := by decide +kernel
theorem dX12_knivesFrom_24 : decode cX12_knivesFrom 24 = .ok (.iaload, 1) := by decide +kernel
theorem dX12_knivesFrom_25 : decode cX12_knivesFrom 25 = .ok (.iadd, 1) := by decide +kernel
theorem dX12_knivesFrom_26 : decode cX12_knivesFrom 26 = .ok (.istore 4, 2) := by decide +kernel
theorem dX12_knivesFrom_28 : decode cX12_knivesFrom 28 = .ok (.iinc 5 1, 3) := by decide +kernel
theorem dX12_knivesFrom_31 : decode cX12_knivesFrom 31 = .ok (.goto (-25), 3) := by decide +kernel
theorem dX12_knivesFrom_34 : decode cX12_knivesFrom 34 = .ok (.iload 4, 2) := by decide +kernel
theorem dX12_knivesFrom_36 : decode cX12_knivesFrom 36 = .ok (.ireturn, 1) := by decide +kernel
theorem dX12_missing_0 : decode cX12_missing 0 = .ok (.iload_n 1, 1) := by decide +kernel
theorem dX12_missing_1 : decode cX12_missing 1 = .ok (.ifCond .lt 11, 3) := by decide +kernel
theorem dX12_missing_4 : decode cX12_missing 4 = .ok (.iload_n 1, 1) := by decide +kernel
theorem dX12_missing_5 : decode cX12_missing 5 = .ok (.aload_n 0, 1) := by decide +kernel
theorem dX12_missing_6 : decode cX12_missing 6 = .ok (.getfield 417, 3) := by decide +kernel
theorem dX12_missing_9 : decode cX12_missing 9 = .ok (.if_icmp .lt 9, 3) := by decide +kernel
theorem dX12_missing_12 : decode cX12_missing 12 = .ok (.ldc_w 420, 3) := by decide +kernel
theorem dX12_missing_15 : decode cX12_missing 15 = .ok (.goto 32, 3) := by decide +kernel
theorem dX12_missing_18 : decode cX12_missing 18 = .ok (.aload_n 0, 1) := by decide +kernel
theorem dX12_missing_19 : decode cX12_missing 19 = .ok (.aload_n 0, 1) := by decide +kernel
theorem dX12_missing_20 : decode cX12_missing 20 = .ok (.getfield 104, 3) := by decide +kernel
theorem dX12_missing_23 : decode cX12_missing 23 = .ok (.iload_n 1, 1) := by decide +kernel
theorem dX12_missing_24 : decode cX12_missing 24 = .ok (.iaload, 1) := by decide +kernel
theorem dX12_missing_25 : decode cX12_missing 25 = .ok (.aload_n 0, 1) := by decide +kernel
theorem dX12_missing_26 : decode cX12_missing 26 = .ok (.getfield 107, 3) := by decide +kernel
theorem dX12_missing_29 : decode cX12_missing 29 = .ok (.iload_n 1, 1) := by decide +kernel
theorem dX12_missing_30 : decode cX12_missing 30 = .ok (.iaload, 1) := by decide +kernel
theorem dX12_missing_31 : decode cX12_missing 31 = .ok (.aload_n 0, 1) := by decide +kernel
theorem dX12_missing_32 : decode cX12_missing 32 = .ok (.getfield 110, 3) := by decide +kernel
theorem dX12_missing_35 : decode cX12_missing 35 = .ok (.iload_n 1, 1) := by decide +kernel
theorem dX12_missing_36 : decode cX12_missing 36 = .ok (.iaload, 1) := by decide +kernel
theorem dX12_missing_37 : decode cX12_missing 37 = .ok (.invokevirtual 421, 3) := by decide +kernel
theorem dX12_missing_40 : decode cX12_missing 40 = .ok (.aload_n 0, 1) := by decide +kernel
theorem dX12_missing_41 : decode cX12_missing 41 = .ok (.getfield 113, 3) := by decide +kernel
theorem dX12_missing_44 : decode cX12_missing 44 = .ok (.iload_n 1, 1) := by decide +kernel
theorem dX12_missing_45 : decode cX12_missing 45 = .ok (.iaload, 1) := by decide +kernel
theorem dX12_missing_46 : decode cX12_missing 46 = .ok (.isub, 1) := by decide +kernel
theorem dX12_missing_47 : decode cX12_missing 47 = .ok (.ireturn, 1) := by decide +kernel
theorem dX12_joins_0 : decode cX12_joins 0 = .ok (.aload_n 0, 1) := by decide +kernel
theorem dX12_joins_1 : decode cX12_joins 1 = .ok (.getfield 116, 3) := by decide +kernel
theorem dX12_joins_4 : decode cX12_joins 4 = .ok (.iload_n 1, 1) := by decide +kernel
theorem dX12_joins_5 : decode cX12_joins 5 = .ok (.iaload, 1) := by decide +kernel
theorem dX12_joins_6 : decode cX12_joins 6 = .ok (.iload_n 3, 1) := by decide +kernel
theorem dX12_joins_7 : decode cX12_joins 7 = .ok (.iadd, 1) := by decide +kernel
theorem dX12_joins_8 : decode cX12_joins 8 = .ok (.aload_n 0, 1) := by decide +kernel
theorem dX12_joins_9 : decode cX12_joins 9 = .ok (.getfield 116, 3) := by decide +kernel
theorem dX12_joins_12 : decode cX12_joins 12 = .ok (.iload_n 2, 1) := by decide +kernel
theorem dX12_joins_13 : decode cX12_joins 13 = .ok (.iaload, 1) := by decide +kernel
theorem dX12_joins_14 : decode cX12_joins 14 = .ok (.isub, 1) := by decide +kernel
theorem dX12_joins_15 : decode cX12_joins 15 = .ok (.istore 4, 2) := by decide +kernel
theorem dX12_joins_17 : decode cX12_joins 17 = .ok (.aload_n 0, 1) := by decide +kernel
theorem dX12_joins_18 : decode cX12_joins 18 = .ok (.getfield 119, 3) := by decide +kernel
theorem dX12_joins_21 : decode cX12_joins 21 = .ok (.iload_n 1, 1) := by decide +kernel
theorem dX12_joins_22 : decode cX12_joins 22 = .ok (.iaload, 1) := by decide +kernel
theorem dX12_joins_23 : decode cX12_joins 23 = .ok (.aload_n 0, 1) := by decide +kernel
theorem dX12_joins_24 : decode cX12_joins 24 = .ok (.getfield 119, 3) := by decide +kernel
theorem dX12_joins_27 : decode cX12_joins 27 = .ok (.iload_n 2, 1) := by decide +kernel
theorem dX12_joins_28 : decode cX12_joins 28 = .ok (.iaload, 1) := by decide +kernel
theorem dX12_joins_29 : decode cX12_joins 29 = .ok (.if_icmp .ne 14, 3) := by decide +kernel
theorem dX12_joins_32 : decode cX12_joins 32 = .ok (.iload 4, 2) := by decide +kernel
theorem dX12_joins_34 : decode cX12_joins 34 = .ok (.ifCond .ne 7, 3) := by decide +kernel
theorem dX12_joins_37 : decode cX12_joins 37 = .ok (.iconst 1, 1) := by decide +kernel
theorem dX12_joins_38 : decode cX12_joins 38 = .ok (.goto 4, 3) := by decide +kernel
theorem dX12_joins_41 : decode cX12_joins 41 = .ok (.iconst 0, 1) := by decide +kernel
theorem dX12_joins_42 : decode cX12_joins 42 = .ok (.ireturn, 1) := by decide +kernel
theorem dX12_joins_43 : decode cX12_joins 43 = .ok (.aload_n 0, 1) := by decide +kernel
theorem dX12_joins_44 : decode cX12_joins 44 = .ok (.getfield 119, 3) := by decide +kernel
theorem dX12_joins_47 : decode cX12_joins 47 = .ok (.iload_n 2, 1) := by decide +kernel
theorem dX12_joins_48 : decode cX12_joins 48 = .ok (.iaload, 1) := by decide +kernel
theorem dX12_joins_49 : decode cX12_joins 49 = .ok (.istore 5, 2) := by decide +kernel
theorem dX12_joins_51 : decode cX12_joins 51 = .ok (.iconst 0, 1) := by decide +kernel
theorem dX12_joins_52 : decode cX12_joins 52 = .ok (.istore 6, 2) := by decide +kernel
theorem dX12_joins_54 : decode cX12_joins 54 = .ok (.iload 6, 2) := by decide +kernel
theorem dX12_joins_56 : decode cX12_joins 56 = .ok (.bipush 21, 2) := by decide +kernel
theorem dX12_joins_58 : decode cX12_joins 58 = .ok (.if_icmp .ge 54, 3) := by decide +kernel
theorem dX12_joins_61 : decode cX12_joins 61 = .ok (.aload_n 0, 1) := by decide +kernel
theorem dX12_joins_62 : decode cX12_joins 62 = .ok (.getfield 119, 3) := by decide +kernel
theorem dX12_joins_65 : decode cX12_joins 65 = .ok (.iload 6, 2) := by decide +kernel
theorem dX12_joins_67 : decode cX12_joins 67 = .ok (.iaload, 1) := by decide +kernel
theorem dX12_joins_68 : decode cX12_joins 68 = .ok (.iload 5, 2) := by decide +kernel
theorem dX12_joins_70 : decode cX12_joins 70 = .ok (.if_icmp .eq 6, 3) := by decide +kernel
theorem dX12_joins_73 : decode cX12_joins 73 = .ok (.goto 33, 3) := by decide +kernel
theorem dX12_joins_76 : decode cX12_joins 76 = .ok (.aload_n 0, 1) := by decide +kernel
theorem dX12_joins_77 : decode cX12_joins 77 = .ok (.getfield 119, 3) := by decide +kernel
theorem dX12_joins_80 : decode cX12_joins 80 = .ok (.iload 6, 2) := by decide +kernel
theorem dX12_joins_82 : decode cX12_joins 82 = .ok (.aload_n 0, 1) := by decide +kernel
theorem dX12_joins_83 : decode cX12_joins 83 = .ok (.getfield 119, 3) := by decide +kernel
theorem dX12_joins_86 : decode cX12_joins 86 = .ok (.iload_n 1, 1) := by decide +kernel
theorem dX12_joins_87 : decode cX12_joins 87 = .ok (.iaload, 1) := by decide +kernel
theorem dX12_joins_88 : decode cX12_joins 88 = .ok (.iastore, 1) := by decide +kernel
theorem dX12_joins_89 : decode cX12_joins 89 = .ok (.aload_n 0, 1) := by decide +kernel
theorem dX12_joins_90 : decode cX12_joins 90 = .ok (.getfield 116, 3) := by decide +kernel
theorem dX12_joins_93 : decode cX12_joins 93 = .ok (.iload 6, 2) := by decide +kernel
theorem dX12_joins_95 : decode cX12_joins 95 = .ok (.aload_n 0, 1) := by decide +kernel
theorem dX12_joins_96 : decode cX12_joins 96 = .ok (.getfield 116, 3) := by decide +kernel
theorem dX12_joins_99 : decode cX12_joins 99 = .ok (.iload 6, 2) := by decide +kernel
theorem dX12_joins_101 : decode cX12_joins 101 = .ok (.iaload, 1) := by decide +kernel
theorem dX12_joins_102 : decode cX12_joins 102 = .ok (.iload 4, 2) := by decide +kernel
theorem dX12_joins_104 : decode cX12_joins 104 = .ok (.iadd, 1) := by decide +kernel
theorem dX12_joins_105 : decode cX12_joins 105 = .ok (.iastore, 1) := by decide +kernel
theorem dX12_joins_106 : decode cX12_joins 106 = .ok (.iinc 6 1, 3) := by decide +kernel
theorem dX12_joins_109 : decode cX12_joins 109 = .ok (.goto (-55), 3) := by decide +kernel
theorem dX12_joins_112 : decode cX12_joins 112 = .ok (.iconst 1, 1) := by decide +kernel
theorem dX12_joins_113 : decode cX12_joins 113 = .ok (.ireturn, 1) := by decide +kernel
theorem dX12_wrongOf_0 : decode cX12_wrongOf 0 = .ok (.iconst 0, 1) := by decide +kernel
theorem dX12_wrongOf_1 : decode cX12_wrongOf 1 = .ok (.istore_n 2, 1) := by decide +kernel
theorem dX12_wrongOf_2 : decode cX12_wrongOf 2 = .ok (.iload_n 2, 1) := by decide +kernel
theorem dX12_wrongOf_3 : decode cX12_wrongOf 3 = .ok (.bipush 21, 2) := by decide +kernel
theorem dX12_wrongOf_5 : decode cX12_wrongOf 5 = .ok (.if_icmp .ge 23, 3) := by decide +kernel
theorem dX12_wrongOf_8 : decode cX12_wrongOf 8 = .ok (.aload_n 0, 1) := by decide +kernel
theorem dX12_wrongOf_9 : decode cX12_wrongOf 9 = .ok (.getfield 119, 3) := by decide +kernel
theorem dX12_wrongOf_12 : decode cX12_wrongOf 12 = .ok (.iload_n 2, 1) := by decide +kernel
theorem dX12_wrongOf_13 : decode cX12_wrongOf 13 = .ok (.iload_n 2, 1) := by decide +kernel
theorem dX12_wrongOf_14 : decode cX12_wrongOf 14 = .ok (.iastore, 1) := by decide +kernel
theorem dX12_wrongOf_15 : decode cX12_wrongOf 15 = .ok (.aload_n 0, 1) := by decide +kernel
theorem dX12_wrongOf_16 : decode cX12_wrongOf 16 = .ok (.getfield 116, 3) := by decide +kernel
theorem dX12_wrongOf_19 : decode cX12_wrongOf 19 = .ok (.iload_n 2, 1) := by decide +kernel
theorem dX12_wrongOf_20 : decode cX12_wrongOf 20 = .ok (.iconst 0, 1) := by decide +kernel
theorem dX12_wrongOf_21 : decode cX12_wrongOf 21 = .ok (.iastore, 1) := by decide +kernel
theorem dX12_wrongOf_22 : decode cX12_wrongOf 22 = .ok (.iinc 2 1, 3) := by decide +kernel
theorem dX12_wrongOf_25 : decode cX12_wrongOf 25 = .ok (.goto (-23), 3) := by decide +kernel
theorem dX12_wrongOf_28 : decode cX12_wrongOf 28 = .ok (.aload_n 0, 1) := by decide +kernel
theorem dX12_wrongOf_29 : decode cX12_wrongOf 29 = .ok (.iconst 0, 1) := by decide +kernel
theorem dX12_wrongOf_30 : decode cX12_wrongOf 30 = .ok (.bipush 20, 2) := by decide +kernel
theorem dX12_wrongOf_32 : decode cX12_wrongOf 32 = .ok (.aload_n 0, 1) := by decide +kernel
theorem dX12_wrongOf_33 : decode cX12_wrongOf 33 = .ok (.iload_n 1, 1) := by decide +kernel
theorem dX12_wrongOf_34 : decode cX12_wrongOf 34 = .ok (.iconst 0, 1) := by decide +kernel
theorem dX12_wrongOf_35 : decode cX12_wrongOf 35 = .ok (.bipush 19, 2) := by decide +kernel
theorem dX12_wrongOf_37 : decode cX12_wrongOf 37 = .ok (.invokevirtual 421, 3) := by decide +kernel
theorem dX12_wrongOf_40 : decode cX12_wrongOf 40 = .ok (.invokevirtual 424, 3) := by decide +kernel
theorem dX12_wrongOf_43 : decode cX12_wrongOf 43 = .ok (.pop, 1) := by decide +kernel
theorem dX12_wrongOf_44 : decode cX12_wrongOf 44 = .ok (.iconst 0, 1) := by decide +kernel
theorem dX12_wrongOf_45 : decode cX12_wrongOf 45 = .ok (.istore_n 2, 1) := by decide +kernel
theorem dX12_wrongOf_46 : decode cX12_wrongOf 46 = .ok (.iload_n 2, 1) := by decide +kernel
theorem dX12_wrongOf_47 : decode cX12_wrongOf 47 = .ok (.aload_n 0, 1) := by decide +kernel
theorem dX12_wrongOf_48 : decode cX12_wrongOf 48 = .ok (.getfield 417, 3) := by decide +kernel
theorem dX12_wrongOf_51 : decode cX12_wrongOf 51 = .ok (.if_icmp .ge 48, 3) := by decide +kernel
theorem dX12_wrongOf_54 : decode cX12_wrongOf 54 = .ok (.aload_n 0, 1) := by decide +kernel
theorem dX12_wrongOf_55 : decode cX12_wrongOf 55 = .ok (.getfield 104, 3) := by decide +kernel
theorem dX12_wrongOf_58 : decode cX12_wrongOf 58 = .ok (.iload_n 2, 1) := by decide +kernel
theorem dX12_wrongOf_59 : decode cX12_wrongOf 59 = .ok (.iaload, 1) := by decide +kernel
theorem dX12_wrongOf_60 : decode cX12_wrongOf 60 = .ok (.iload_n 1, 1) := by decide +kernel
theorem dX12_wrongOf_61 : decode cX12_wrongOf 61 = .ok (.if_icmp .ne 32, 3) := by decide +kernel
theorem dX12_wrongOf_64 : decode cX12_wrongOf 64 = .ok (.aload_n 0, 1) := by decide +kernel
theorem dX12_wrongOf_65 : decode cX12_wrongOf 65 = .ok (.aload_n 0, 1) := by decide +kernel
theorem dX12_wrongOf_66 : decode cX12_wrongOf 66 = .ok (.getfield 107, 3) := by decide +kernel
theorem dX12_wrongOf_69 : decode cX12_wrongOf 69 = .ok (.iload_n 2, 1) := by decide +kernel
theorem dX12_wrongOf_70 : decode cX12_wrongOf 70 = .ok (.iaload, 1) := by decide +kernel
theorem dX12_wrongOf_71 : decode cX12_wrongOf 71 = .ok (.aload_n 0, 1) := by decide +kernel
theorem dX12_wrongOf_72 : decode cX12_wrongOf 72 = .ok (.getfield 110, 3) := by decide +kernel
theorem dX12_wrongOf_75 : decode cX12_wrongOf 75 = .ok (.iload_n 2, 1) := by decide +kernel
theorem dX12_wrongOf_76 : decode cX12_wrongOf 76 = .ok (.iaload, 1) := by decide +kernel
theorem dX12_wrongOf_77 : decode cX12_wrongOf 77 = .ok (.iconst 1, 1) := by decide +kernel
theorem dX12_wrongOf_78 : decode cX12_wrongOf 78 = .ok (.iadd, 1) := by decide +kernel
theorem dX12_wrongOf_79 : decode cX12_wrongOf 79 = .ok (.aload_n 0, 1) := by decide +kernel
theorem dX12_wrongOf_80 : decode cX12_wrongOf 80 = .ok (.getfield 113, 3) := by decide +kernel
theorem dX12_wrongOf_83 : decode cX12_wrongOf 83 = .ok (.iload_n 2, 1) := by decide +kernel
theorem dX12_wrongOf_84 : decode cX12_wrongOf 84 = .ok (.iaload, 1) := by decide +kernel
theorem dX12_wrongOf_85 : decode cX12_wrongOf 85 = .ok (.invokevirtual 424, 3) := by decide +kernel
theorem dX12_wrongOf_88 : decode cX12_wrongOf 88 = .ok (.ifCond .ne 5, 3) := by decide +kernel
theorem dX12_wrongOf_91 : decode cX12_wrongOf 91 = .ok (.iload_n 2, 1) := by decide +kernel
theorem dX12_wrongOf_92 : decode cX12_wrongOf 92 = .ok (.ireturn, 1) := by decide +kernel
theorem dX12_wrongOf_93 : decode cX12_wrongOf 93 = .ok (.iinc 2 1, 3) := by decide +kernel
theorem dX12_wrongOf_96 : decode cX12_wrongOf 96 = .ok (.goto (-50), 3) := by decide +kernel
theorem dX12_wrongOf_99 : decode cX12_wrongOf 99 = .ok (.iconst (-1), 1) := by decide +kernel
theorem dX12_wrongOf_100 : decode cX12_wrongOf 100 = .ok (.ireturn, 1) := by decide +kernel
theorem dX12_wrong_0 : decode cX12_wrong 0 = .ok (.aload_n 0, 1) := by decide +kernel
theorem dX12_wrong_1 : decode cX12_wrong 1 = .ok (.iconst 0, 1) := by decide +kernel
theorem dX12_wrong_2 : decode cX12_wrong 2 = .ok (.invokevirtual 427, 3) := by decide +kernel
theorem dX12_wrong_5 : decode cX12_wrong 5 = .ok (.istore_n 1, 1) := by decide +kernel
theorem dX12_wrong_6 : decode cX12_wrong 6 = .ok (.aload_n 0, 1) := by decide +kernel
theorem dX12_wrong_7 : decode cX12_wrong 7 = .ok (.iconst 1, 1) := by decide +kernel
theorem dX12_wrong_8 : decode cX12_wrong 8 = .ok (.invokevirtual 427, 3) := by decide +kernel
theorem dX12_wrong_11 : decode cX12_wrong 11 = .ok (.istore_n 2, 1) := by decide +kernel
theorem dX12_wrong_12 : decode cX12_wrong 12 = .ok (.iload_n 1, 1) := by decide +kernel
theorem dX12_wrong_13 : decode cX12_wrong 13 = .ok (.iconst (-1), 1) := by decide +kernel
theorem dX12_wrong_14 : decode cX12_wrong 14 = .ok (.if_icmp .eq 13, 3) := by decide +kernel
theorem dX12_wrong_17 : decode cX12_wrong 17 = .ok (.iload_n 2, 1) := by decide +kernel
theorem dX12_wrong_18 : decode cX12_wrong 18 = .ok (.iconst (-1), 1) := by decide +kernel
theorem dX12_wrong_19 : decode cX12_wrong 19 = .ok (.if_icmp .eq 12, 3) := by decide +kernel
theorem dX12_wrong_22 : decode cX12_wrong 22 = .ok (.iload_n 2, 1) := by decide +kernel
theorem dX12_wrong_23 : decode cX12_wrong 23 = .ok (.iload_n 1, 1) := by decide +kernel
theorem dX12_wrong_24 : decode cX12_wrong 24 = .ok (.if_icmp .ge 7, 3) := by decide +kernel
theorem dX12_wrong_27 : decode cX12_wrong 27 = .ok (.iload_n 2, 1) := by decide +kernel
theorem dX12_wrong_28 : decode cX12_wrong 28 = .ok (.goto 4, 3) := by decide +kernel
theorem dX12_wrong_31 : decode cX12_wrong 31 = .ok (.iload_n 1, 1) := by decide +kernel
theorem dX12_wrong_32 : decode cX12_wrong 32 = .ok (.ireturn, 1) := by decide +kernel
theorem dX12_isMany_0 : decode cX12_isMany 0 = .ok (.iload_n 0, 1) := by decide +kernel
theorem dX12_isMany_1 : decode cX12_isMany 1 = .ok (.ifCond .le 13, 3) := by decide +kernel
theorem dX12_isMany_4 : decode cX12_isMany 4 = .ok (.iload_n 0, 1) := by decide +kernel
theorem dX12_isMany_5 : decode cX12_isMany 5 = .ok (.bipush 100, 2) := by decide +kernel
theorem dX12_isMany_7 : decode cX12_isMany 7 = .ok (.if_icmp .ge 7, 3) := by decide +kernel
theorem dX12_isMany_10 : decode cX12_isMany 10 = .ok (.iconst 1, 1) := by decide +kernel
theorem dX12_isMany_11 : decode cX12_isMany 11 = .ok (.goto 4, 3) := by decide +kernel
theorem dX12_isMany_14 : decode cX12_isMany 14 = .ok (.iconst 0, 1) := by decide +kernel
theorem dX12_isMany_15 : decode cX12_isMany 15 = .ok (.ireturn, 1) := by decide +kernel
theorem dX12_gives_0 : decode cX12_gives 0 = .ok (.aload_n 0, 1) := by decide +kernel
theorem dX12_gives_1 : decode cX12_gives 1 = .ok (.iload_n 1, 1) := by decide +kernel
theorem dX12_gives_2 : decode cX12_gives 2 = .ok (.invokevirtual 183, 3) := by decide +kernel
theorem dX12_gives_5 : decode cX12_gives 5 = .ok (.ifCond .eq 10, 3) := by decide +kernel
theorem dX12_gives_8 : decode cX12_gives 8 = .ok (.iload_n 2, 1) := by decide +kernel
theorem dX12_gives_9 : decode cX12_gives 9 = .ok (.invokestatic 430, 3) := by decide +kernel
theorem dX12_gives_12 : decode cX12_gives 12 = .ok (.ifCond .ne 5, 3) := by decide +kernel
theorem dX12_gives_15 : decode cX12_gives 15 = .ok (.iconst (-1), 1) := by decide +kernel
theorem dX12_gives_16 : decode cX12_gives 16 = .ok (.ireturn, 1) := by decide +kernel
theorem dX12_gives_17 : decode cX12_gives 17 = .ok (.aload_n 0, 1) := by decide +kernel
theorem dX12_gives_18 : decode cX12_gives 18 = .ok (.iload_n 1, 1) := by decide +kernel
theorem dX12_gives_19 : decode cX12_gives 19 = .ok (.invokevirtual 309, 3) := by decide +kernel
theorem dX12_gives_22 : decode cX12_gives 22 = .ok (.ifCond .eq 17, 3) := by decide +kernel
theorem dX12_gives_25 : decode cX12_gives 25 = .ok (.aload_n 0, 1) := by decide +kernel
theorem dX12_gives_26 : decode cX12_gives 26 = .ok (.getfield 122, 3) := by decide +kernel
theorem dX12_gives_29 : decode cX12_gives 29 = .ok (.iload_n 1, 1) := by decide +kernel
theorem dX12_gives_30 : decode cX12_gives 30 = .ok (.iaload, 1) := by decide +kernel
theorem dX12_gives_31 : decode cX12_gives 31 = .ok (.iload_n 2, 1) := by decide +kernel
theorem dX12_gives_32 : decode cX12_gives 32 = .ok (.iadd, 1) := by decide +kernel
theorem dX12_gives_33 : decode cX12_gives 33 = .ok (.sipush 9999, 3) := by decide +kernel
theorem dX12_gives_36 : decode cX12_gives 36 = .ok (.if_icmp .le 6, 3) := by decide +kernel
theorem dX12_gives_39 : decode cX12_gives 39 = .ok (.bipush (-2), 2) := by decide +kernel
theorem dX12_gives_41 : decode cX12_gives 41 = .ok (.ireturn, 1) := by decide +kernel
theorem dX12_gives_42 : decode cX12_gives 42 = .ok (.aload_n 0, 1) := by decide +kernel
theorem dX12_gives_43 : decode cX12_gives 43 = .ok (.getfield 122, 3) := by decide +kernel
theorem dX12_gives_46 : decode cX12_gives 46 = .ok (.iload_n 1, 1) := by decide +kernel
theorem dX12_gives_47 : decode cX12_gives 47 = .ok (.aload_n 0, 1) := by decide +kernel
theorem dX12_gives_48 : decode cX12_gives 48 = .ok (.getfield 122, 3) := by decide +kernel
theorem dX12_gives_51 : decode cX12_gives 51 = .ok (.iload_n 1, 1) := by decide +kernel
theorem dX12_gives_52 : decode cX12_gives 52 = .ok (.iaload, 1) := by decide +kernel
theorem dX12_gives_53 : decode cX12_gives 53 = .ok (.iload_n 2, 1) := by decide +kernel
theorem dX12_gives_54 : decode cX12_gives 54 = .ok (.iadd, 1) := by decide +kernel
theorem dX12_gives_55 : decode cX12_gives 55 = .ok (.iastore, 1) := by decide +kernel
theorem dX12_gives_56 : decode cX12_gives 56 = .ok (.aload_n 0, 1) := by decide +kernel
theorem dX12_gives_57 : decode cX12_gives 57 = .ok (.getfield 128, 3) := by decide +kernel
theorem dX12_gives_60 : decode cX12_gives 60 = .ok (.iload_n 1, 1) := by decide +kernel
theorem dX12_gives_61 : decode cX12_gives 61 = .ok (.aload_n 0, 1) := by decide +kernel
theorem dX12_gives_62 : decode cX12_gives 62 = .ok (.getfield 128, 3) := by decide +kernel
theorem dX12_gives_65 : decode cX12_gives 65 = .ok (.iload_n 1, 1) := by decide +kernel
theorem dX12_gives_66 : decode cX12_gives 66 = .ok (.iaload, 1) := by decide +kernel
theorem dX12_gives_67 : decode cX12_gives 67 = .ok (.iload_n 2, 1) := by decide +kernel
theorem dX12_gives_68 : decode cX12_gives 68 = .ok (.iadd, 1) := by decide +kernel
theorem dX12_gives_69 : decode cX12_gives 69 = .ok (.iastore, 1) := by decide +kernel
theorem dX12_gives_70 : decode cX12_gives 70 = .ok (.aload_n 0, 1) := by decide +kernel
theorem dX12_gives_71 : decode cX12_gives 71 = .ok (.getfield 122, 3) := by decide +kernel
theorem dX12_gives_74 : decode cX12_gives 74 = .ok (.iload_n 1, 1) := by decide +kernel
theorem dX12_gives_75 : decode cX12_gives 75 = .ok (.iaload, 1) := by decide +kernel
theorem dX12_gives_76 : decode cX12_gives 76 = .ok (.ireturn, 1) := by decide +kernel
theorem dX12_mayPass_0 : decode cX12_mayPass 0 = .ok (.aload_n 0, 1) := by decide +kernel
theorem dX12_mayPass_1 : decode cX12_mayPass 1 = .ok (.iload_n 1, 1) := by decide +kernel
theorem dX12_mayPass_2 : decode cX12_mayPass 2 = .ok (.iload_n 2, 1) := by decide +kernel
theorem dX12_mayPass_3 : decode cX12_mayPass 3 = .ok (.invokevirtual 315, 3) := by decide +kernel
theorem dX12_mayPass_6 : decode cX12_mayPass 6 = .ok (.ifCond .eq 49, 3) := by decide +kernel
theorem dX12_mayPass_9 : decode cX12_mayPass 9 = .ok (.aload_n 0, 1) := by decide +kernel
theorem dX12_mayPass_10 : decode cX12_mayPass 10 = .ok (.iload_n 1, 1) := by decide +kernel
theorem dX12_mayPass_11 : decode cX12_mayPass 11 = .ok (.iload_n 2, 1) := by decide +kernel
theorem dX12_mayPass_12 : decode cX12_mayPass 12 = .ok (.invokevirtual 324, 3) := by decide +kernel
theorem dX12_mayPass_15 : decode cX12_mayPass 15 = .ok (.ifCond .eq 40, 3) := by decide +kernel
theorem dX12_mayPass_18 : decode cX12_mayPass 18 = .ok (.aload_n 0, 1) := by decide +kernel
theorem dX12_mayPass_19 : decode cX12_mayPass 19 = .ok (.getfield 122, 3) := by decide +kernel
theorem dX12_mayPass_22 : decode cX12_mayPass 22 = .ok (.iload_n 2, 1) := by decide +kernel
theorem dX12_mayPass_23 : decode cX12_mayPass 23 = .ok (.iaload, 1) := by decide +kernel
theorem dX12_mayPass_24 : decode cX12_mayPass 24 = .ok (.iload_n 3, 1) := by decide +kernel
theorem dX12_mayPass_25 : decode cX12_mayPass 25 = .ok (.iadd, 1) := by decide +kernel
theorem dX12_mayPass_26 : decode cX12_mayPass 26 = .ok (.sipush 9999, 3) := by decide +kernel
theorem dX12_mayPass_29 : decode cX12_mayPass 29 = .ok (.if_icmp .gt 26, 3) := by decide +kernel
theorem dX12_mayPass_32 : decode cX12_mayPass 32 = .ok (.aload_n 0, 1) := by decide +kernel
theorem dX12_mayPass_33 : decode cX12_mayPass 33 = .ok (.getfield 137, 3) := by decide +kernel
theorem dX12_mayPass_36 : decode cX12_mayPass 36 = .ok (.bipush 16, 2) := by decide +kernel
theorem dX12_mayPass_38 : decode cX12_mayPass 38 = .ok (.iload_n 1, 1) := by decide +kernel
theorem dX12_mayPass_39 : decode cX12_mayPass 39 = .ok (.imul, 1) := by decide +kernel
theorem dX12_mayPass_40 : decode cX12_mayPass 40 = .ok (.iload_n 2, 1) := by decide +kernel
theorem dX12_mayPass_41 : decode cX12_mayPass 41 = .ok (.iadd, 1) := by decide +kernel
theorem dX12_mayPass_42 : decode cX12_mayPass 42 = .ok (.iaload, 1) := by decide +kernel
theorem dX12_mayPass_43 : decode cX12_mayPass 43 = .ok (.iload_n 3, 1) := by decide +kernel
theorem dX12_mayPass_44 : decode cX12_mayPass 44 = .ok (.iadd, 1) := by decide +kernel
theorem dX12_mayPass_45 : decode cX12_mayPass 45 = .ok (.sipush 9999, 3) := by decide +kernel
theorem dX12_mayPass_48 : decode cX12_mayPass 48 = .ok (.if_icmp .gt 7, 3) := by decide +kernel
theorem dX12_mayPass_51 : decode cX12_mayPass 51 = .ok (.iconst 1, 1) := by decide +kernel
theorem dX12_mayPass_52 : decode cX12_mayPass 52 = .ok (.goto 4, 3) := by decide +kernel
theorem dX12_mayPass_55 : decode cX12_mayPass 55 = .ok (.iconst 0, 1) := by decide +kernel
theorem dX12_mayPass_56 : decode cX12_mayPass 56 = .ok (.ireturn, 1) := by decide +kernel
theorem dX12_hands_0 : decode cX12_hands 0 = .ok (.aload_n 0, 1) := by decide +kernel
theorem dX12_hands_1 : decode cX12_hands 1 = .ok (.getfield 122, 3) := by decide +kernel
theorem dX12_hands_4 : decode cX12_hands 4 = .ok (.iload_n 1, 1) := by decide +kernel
theorem dX12_hands_5 : decode cX12_hands 5 = .ok (.aload_n 0, 1) := by decide +kernel
theorem dX12_hands_6 : decode cX12_hands 6 = .ok (.getfield 122, 3) := by decide +kernel
theorem dX12_hands_9 : decode cX12_hands 9 = .ok (.iload_n 1, 1) := by decide +kernel
theorem dX12_hands_10 : decode cX12_hands 10 = .ok (.iaload, 1) := by decide +kernel
theorem dX12_hands_11 : decode cX12_hands 11 = .ok (.iload_n 3, 1) := by decide +kernel
theorem dX12_hands_12 : decode cX12_hands 12 = .ok (.isub, 1) := by decide +kernel
theorem dX12_hands_13 : decode cX12_hands 13 = .ok (.iastore, 1) := by decide +kernel
theorem dX12_hands_14 : decode cX12_hands 14 = .ok (.aload_n 0, 1) := by decide +kernel
theorem dX12_hands_15 : decode cX12_hands 15 = .ok (.getfield 122, 3) := by decide +kernel
theorem dX12_hands_18 : decode cX12_hands 18 = .ok (.iload_n 2, 1) := by decide +kernel
theorem dX12_hands_19 : decode cX12_hands 19 = .ok (.aload_n 0, 1) := by decide +kernel
theorem dX12_hands_20 : decode cX12_hands 20 = .ok (.getfield 122, 3) := by decide +kernel
theorem dX12_hands_23 : decode cX12_hands 23 = .ok (.iload_n 2, 1) := by decide +kernel
theorem dX12_hands_24 : decode cX12_hands 24 = .ok (.iaload, 1) := by decide +kernel
theorem dX12_hands_25 : decode cX12_hands 25 = .ok (.iload_n 3, 1) := by decide +kernel
theorem dX12_hands_26 : decode cX12_hands 26 = .ok (.iadd, 1) := by decide +kernel
theorem dX12_hands_27 : decode cX12_hands 27 = .ok (.iastore, 1) := by decide +kernel
theorem dX12_hands_28 : decode cX12_hands 28 = .ok (.aload_n 0, 1) := by decide +kernel
theorem dX12_hands_29 : decode cX12_hands 29 = .ok (.getfield 134, 3) := by decide +kernel
theorem dX12_hands_32 : decode cX12_hands 32 = .ok (.iload_n 1, 1) := by decide +kernel
theorem dX12_hands_33 : decode cX12_hands 33 = .ok (.aload_n 0, 1) := by decide +kernel
theorem dX12_hands_34 : decode cX12_hands 34 = .ok (.getfield 134, 3) := by decide +kernel
theorem dX12_hands_37 : decode cX12_hands 37 = .ok (.iload_n 1, 1) := by decide +kernel
theorem dX12_hands_38 : decode cX12_hands 38 = .ok (.iaload, 1) := by decide +kernel
theorem dX12_hands_39 : decode cX12_hands 39 = .ok (.iload_n 3, 1) := by decide +kernel
theorem dX12_hands_40 : decode cX12_hands 40 = .ok (.iadd, 1) := by decide +kernel
theorem dX12_hands_41 : decode cX12_hands 41 = .ok (.iastore, 1) := by decide +kernel
theorem dX12_hands_42 : decode cX12_hands 42 = .ok (.aload_n 0, 1) := by decide +kernel
theorem dX12_hands_43 : decode cX12_hands 43 = .ok (.getfield 131, 3) := by decide +kernel
theorem dX12_hands_46 : decode cX12_hands 46 = .ok (.iload_n 2, 1) := by decide +kernel
theorem dX12_hands_47 : decode cX12_hands 47 = .ok (.aload_n 0, 1) := by decide +kernel
theorem dX12_hands_48 : decode cX12_hands 48 = .ok (.getfield 131, 3) := by decide +kernel
theorem dX12_hands_51 : decode cX12_hands 51 = .ok (.iload_n 2, 1) := by decide +kernel
theorem dX12_hands_52 : decode cX12_hands 52 = .ok (.iaload, 1) := by decide +kernel
theorem dX12_hands_53 : decode cX12_hands 53 = .ok (.iload_n 3, 1) := by decide +kernel
theorem dX12_hands_54 : decode cX12_hands 54 = .ok (.iadd, 1) := by decide +kernel
theorem dX12_hands_55 : decode cX12_hands 55 = .ok (.iastore, 1) := by decide +kernel
theorem dX12_hands_56 : decode cX12_hands 56 = .ok (.aload_n 0, 1) := by decide +kernel
theorem dX12_hands_57 : decode cX12_hands 57 = .ok (.getfield 137, 3) := by decide +kernel
theorem dX12_hands_60 : decode cX12_hands 60 = .ok (.bipush 16, 2) := by decide +kernel
theorem dX12_hands_62 : decode cX12_hands 62 = .ok (.iload_n 1, 1) := by decide +kernel
theorem dX12_hands_63 : decode cX12_hands 63 = .ok (.imul, 1) := by decide +kernel
theorem dX12_hands_64 : decode cX12_hands 64 = .ok (.iload_n 2, 1) := by decide +kernel
theorem dX12_hands_65 : decode cX12_hands 65 = .ok (.iadd, 1) := by decide +kernel
theorem dX12_hands_66 : decode cX12_hands 66 = .ok (.aload_n 0, 1) := by decide +kernel
theorem dX12_hands_67 : decode cX12_hands 67 = .ok (.getfield 137, 3) := by decide +kernel
theorem dX12_hands_70 : decode cX12_hands 70 = .ok (.bipush 16, 2) := by decide +kernel
theorem dX12_hands_72 : decode cX12_hands 72 = .ok (.iload_n 1, 1) := by decide +kernel
theorem dX12_hands_73 : decode cX12_hands 73 = .ok (.imul, 1) := by decide +kernel
theorem dX12_hands_74 : decode cX12_hands 74 = .ok (.iload_n 2, 1) := by decide +kernel
theorem dX12_hands_75 : decode cX12_hands 75 = .ok (.iadd, 1) := by decide +kernel
theorem dX12_hands_76 : decode cX12_hands 76 = .ok (.iaload, 1) := by decide +kernel
theorem dX12_hands_77 : decode cX12_hands 77 = .ok (.iload_n 3, 1) := by decide +kernel
theorem dX12_hands_78 : decode cX12_hands 78 = .ok (.iadd, 1) := by decide +kernel
theorem dX12_hands_79 : decode cX12_hands 79 = .ok (.iastore, 1) := by decide +kernel
theorem dX12_hands_80 : decode cX12_hands 80 = .ok (.return_, 1) := by decide +kernel
theorem dX12_passes_0 : decode cX12_passes 0 = .ok (.aload_n 0, 1) := by decide +kernel
theorem dX12_passes_1 : decode cX12_passes 1 = .ok (.iload_n 1, 1) := by decide +kernel
theorem dX12_passes_2 : decode cX12_passes 2 = .ok (.invokevirtual 183, 3) := by decide +kernel
theorem dX12_passes_5 : decode cX12_passes 5 = .ok (.ifCond .eq 23, 3) := by decide +kernel
theorem dX12_passes_8 : decode cX12_passes 8 = .ok (.aload_n 0, 1) := by decide +kernel
theorem dX12_passes_9 : decode cX12_passes 9 = .ok (.iload_n 2, 1) := by decide +kernel
theorem dX12_passes_10 : decode cX12_passes 10 = .ok (.invokevirtual 183, 3) := by decide +kernel
theorem dX12_passes_13 : decode cX12_passes 13 = .ok (.ifCond .eq 15, 3) := by decide +kernel
theorem dX12_passes_16 : decode cX12_passes 16 = .ok (.iload_n 1, 1) := by decide +kernel
theorem dX12_passes_17 : decode cX12_passes 17 = .ok (.iload_n 2, 1) := by decide +kernel
theorem dX12_passes_18 : decode cX12_passes 18 = .ok (.if_icmp .eq 10, 3) := by decide +kernel
theorem dX12_passes_21 : decode cX12_passes 21 = .ok (.iload_n 3, 1) := by decide +kernel
theorem dX12_passes_22 : decode cX12_passes 22 = .ok (.invokestatic 430, 3) := by decide +kernel
theorem dX12_passes_25 : decode cX12_passes 25 = .ok (.ifCond .ne 5, 3) := by decide +kernel
theorem dX12_passes_28 : decode cX12_passes 28 = .ok (.iconst (-1), 1) := by decide +kernel
theorem dX12_passes_29 : decode cX12_passes 29 = .ok (.ireturn, 1) := by decide +kernel
theorem dX12_passes_30 : decode cX12_passes 30 = .ok (.aload_n 0, 1) := by decide +kernel
theorem dX12_passes_31 : decode cX12_passes 31 = .ok (.iload_n 1, 1) := by decide +kernel
theorem dX12_passes_32 : decode cX12_passes 32 = .ok (.iload_n 2, 1) := by decide +kernel
theorem dX12_passes_33 : decode cX12_passes 33 = .ok (.iload_n 3, 1) := by decide +kernel
theorem dX12_passes_34 : decode cX12_passes 34 = .ok (.invokevirtual 433, 3) := by decide +kernel
theorem dX12_passes_37 : decode cX12_passes 37 = .ok (.ifCond .ne 6, 3) := by decide +kernel
theorem dX12_passes_40 : decode cX12_passes 40 = .ok (.bipush (-2), 2) := by decide +kernel
theorem dX12_passes_42 : decode cX12_passes 42 = .ok (.ireturn, 1) := by decide +kernel
theorem dX12_passes_43 : decode cX12_passes 43 = .ok (.aload_n 0, 1) := by decide +kernel
theorem dX12_passes_44 : decode cX12_passes 44 = .ok (.getfield 122, 3) := by decide +kernel
theorem dX12_passes_47 : decode cX12_passes 47 = .ok (.iload_n 1, 1) := by decide +kernel
theorem dX12_passes_48 : decode cX12_passes 48 = .ok (.iaload, 1) := by decide +kernel
theorem dX12_passes_49 : decode cX12_passes 49 = .ok (.iload_n 3, 1) := by decide +kernel
theorem dX12_passes_50 : decode cX12_passes 50 = .ok (.if_icmp .ge 6, 3) := by decide +kernel
theorem dX12_passes_53 : decode cX12_passes 53 = .ok (.bipush (-3), 2) := by decide +kernel
theorem dX12_passes_55 : decode cX12_passes 55 = .ok (.ireturn, 1) := by decide +kernel
theorem dX12_passes_56 : decode cX12_passes 56 = .ok (.aload_n 0, 1) := by decide +kernel
theorem dX12_passes_57 : decode cX12_passes 57 = .ok (.iload_n 1, 1) := by decide +kernel
theorem dX12_passes_58 : decode cX12_passes 58 = .ok (.iload_n 2, 1) := by decide +kernel
theorem dX12_passes_59 : decode cX12_passes 59 = .ok (.iload_n 3, 1) := by decide +kernel
theorem dX12_passes_60 : decode cX12_passes 60 = .ok (.invokevirtual 436, 3) := by decide +kernel
theorem dX12_passes_63 : decode cX12_passes 63 = .ok (.aload_n 0, 1) := by decide +kernel
theorem dX12_passes_64 : decode cX12_passes 64 = .ok (.getfield 122, 3) := by decide +kernel
theorem dX12_passes_67 : decode cX12_passes 67 = .ok (.iload_n 1, 1) := by decide +kernel
theorem dX12_passes_68 : decode cX12_passes 68 = .ok (.iaload, 1) := by decide +kernel
theorem dX12_passes_69 : decode cX12_passes 69 = .ok (.ireturn, 1) := by decide +kernel
theorem dX12_eats_0 : decode cX12_eats 0 = .ok (.aload_n 0, 1) := by decide +kernel
theorem dX12_eats_1 : decode cX12_eats 1 = .ok (.iload_n 1, 1) := by decide +kernel
theorem dX12_eats_2 : decode cX12_eats 2 = .ok (.invokevirtual 183, 3) := by decide +kernel
theorem dX12_eats_5 : decode cX12_eats 5 = .ok (.ifCond .eq 10, 3) := by decide +kernel
theorem dX12_eats_8 : decode cX12_eats 8 = .ok (.iload_n 2, 1) := by decide +kernel
theorem dX12_eats_9 : decode cX12_eats 9 = .ok (.invokestatic 430, 3) := by decide +kernel
theorem dX12_eats_12 : decode cX12_eats 12 = .ok (.ifCond .ne 5, 3) := by decide +kernel
theorem dX12_eats_15 : decode cX12_eats 15 = .ok (.iconst (-1), 1) := by decide +kernel
theorem dX12_eats_16 : decode cX12_eats 16 = .ok (.ireturn, 1) := by decide +kernel
theorem dX12_eats_17 : decode cX12_eats 17 = .ok (.aload_n 0, 1) := by decide +kernel
theorem dX12_eats_18 : decode cX12_eats 18 = .ok (.getfield 122, 3) := by decide +kernel
theorem dX12_eats_21 : decode cX12_eats 21 = .ok (.iload_n 1, 1) := by decide +kernel
theorem dX12_eats_22 : decode cX12_eats 22 = .ok (.iaload, 1) := by decide +kernel
theorem dX12_eats_23 : decode cX12_eats 23 = .ok (.iload_n 2, 1) := by decide +kernel
theorem dX12_eats_24 : decode cX12_eats 24 = .ok (.if_icmp .ge 6, 3) := by decide +kernel
theorem dX12_eats_27 : decode cX12_eats 27 = .ok (.bipush (-3), 2) := by decide +kernel
theorem dX12_eats_29 : decode cX12_eats 29 = .ok (.ireturn, 1) := by decide +kernel
theorem dX12_eats_30 : decode cX12_eats 30 = .ok (.aload_n 0, 1) := by decide +kernel
theorem dX12_eats_31 : decode cX12_eats 31 = .ok (.getfield 122, 3) := by decide +kernel
theorem dX12_eats_34 : decode cX12_eats 34 = .ok (.iload_n 1, 1) := by decide +kernel
theorem dX12_eats_35 : decode cX12_eats 35 = .ok (.aload_n 0, 1) := by decide +kernel
theorem dX12_eats_36 : decode cX12_eats 36 = .ok (.getfield 122, 3) := by decide +kernel
theorem dX12_eats_39 : decode cX12_eats 39 = .ok (.iload_n 1, 1) := by decide +kernel
theorem dX12_eats_40 : decode cX12_eats 40 = .ok (.iaload, 1) := by decide +kernel
theorem dX12_eats_41 : decode cX12_eats 41 = .ok (.iload_n 2, 1) := by decide +kernel
theorem dX12_eats_42 : decode cX12_eats 42 = .ok (.isub, 1) := by decide +kernel
theorem dX12_eats_43 : decode cX12_eats 43 = .ok (.iastore, 1) := by decide +kernel
theorem dX12_eats_44 : decode cX12_eats 44 = .ok (.aload_n 0, 1) := by decide +kernel
theorem dX12_eats_45 : decode cX12_eats 45 = .ok (.getfield 125, 3) := by decide +kernel
theorem dX12_eats_48 : decode cX12_eats 48 = .ok (.iload_n 1, 1) := by decide +kernel
theorem dX12_eats_49 : decode cX12_eats 49 = .ok (.aload_n 0, 1) := by decide +kernel
theorem dX12_eats_50 : decode cX12_eats 50 = .ok (.getfield 125, 3) := by decide +kernel
theorem dX12_eats_53 : decode cX12_eats 53 = .ok (.iload_n 1, 1) := by decide +kernel
theorem dX12_eats_54 : decode cX12_eats 54 = .ok (.iaload, 1) := by decide +kernel
theorem dX12_eats_55 : decode cX12_eats 55 = .ok (.iload_n 2, 1) := by decide +kernel
theorem dX12_eats_56 : decode cX12_eats 56 = .ok (.iadd, 1) := by decide +kernel
theorem dX12_eats_57 : decode cX12_eats 57 = .ok (.iastore, 1) := by decide +kernel
theorem dX12_eats_58 : decode cX12_eats 58 = .ok (.aload_n 0, 1) := by decide +kernel
theorem dX12_eats_59 : decode cX12_eats 59 = .ok (.getfield 122, 3) := by decide +kernel
theorem dX12_eats_62 : decode cX12_eats 62 = .ok (.iload_n 1, 1) := by decide +kernel
theorem dX12_eats_63 : decode cX12_eats 63 = .ok (.iaload, 1) := by decide +kernel
theorem dX12_eats_64 : decode cX12_eats 64 = .ok (.ireturn, 1) := by decide +kernel
theorem dX12_fed_0 : decode cX12_fed 0 = .ok (.aload_n 0, 1) := by decide +kernel
theorem dX12_fed_1 : decode cX12_fed 1 = .ok (.iload_n 1, 1) := by decide +kernel
theorem dX12_fed_2 : decode cX12_fed 2 = .ok (.invokevirtual 183, 3) := by decide +kernel
theorem dX12_fed_5 : decode cX12_fed 5 = .ok (.ifCond .eq 30, 3) := by decide +kernel
theorem dX12_fed_8 : decode cX12_fed 8 = .ok (.aload_n 0, 1) := by decide +kernel
theorem dX12_fed_9 : decode cX12_fed 9 = .ok (.iload_n 2, 1) := by decide +kernel
theorem dX12_fed_10 : decode cX12_fed 10 = .ok (.invokevirtual 183, 3) := by decide +kernel
theorem dX12_fed_13 : decode cX12_fed 13 = .ok (.ifCond .eq 22, 3) := by decide +kernel
theorem dX12_fed_16 : decode cX12_fed 16 = .ok (.iload_n 1, 1) := by decide +kernel
theorem dX12_fed_17 : decode cX12_fed 17 = .ok (.iload_n 2, 1) := by decide +kernel
theorem dX12_fed_18 : decode cX12_fed 18 = .ok (.if_icmp .eq 17, 3) := by decide +kernel
theorem dX12_fed_21 : decode cX12_fed 21 = .ok (.aload_n 0, 1) := by decide +kernel
theorem dX12_fed_22 : decode cX12_fed 22 = .ok (.getfield 137, 3) := by decide +kernel
theorem dX12_fed_25 : decode cX12_fed 25 = .ok (.bipush 16, 2) := by decide +kernel
theorem dX12_fed_27 : decode cX12_fed 27 = .ok (.iload_n 1, 1) := by decide +kernel
theorem dX12_fed_28 : decode cX12_fed 28 = .ok (.imul, 1) := by decide +kernel
theorem dX12_fed_29 : decode cX12_fed 29 = .ok (.iload_n 2, 1) := by decide +kernel
theorem dX12_fed_30 : decode cX12_fed 30 = .ok (.iadd, 1) := by decide +kernel
theorem dX12_fed_31 : decode cX12_fed 31 = .ok (.iaload, 1) := by decide +kernel
theorem dX12_fed_32 : decode cX12_fed 32 = .ok (.goto 4, 3) := by decide +kernel
theorem dX12_fed_35 : decode cX12_fed 35 = .ok (.iconst (-1), 1) := by decide +kernel
theorem dX12_fed_36 : decode cX12_fed 36 = .ok (.ireturn, 1) := by decide +kernel
theorem dX12_led_0 : decode cX12_led 0 = .ok (.aload_n 0, 1) := by decide +kernel
theorem dX12_led_1 : decode cX12_led 1 = .ok (.iload_n 1, 1) := by decide +kernel
theorem dX12_led_2 : decode cX12_led 2 = .ok (.invokevirtual 183, 3) := by decide +kernel
theorem dX12_led_5 : decode cX12_led 5 = .ok (.ifCond .ne 5, 3) := by decide +kernel
theorem dX12_led_8 : decode cX12_led 8 = .ok (.iconst (-1), 1) := by decide +kernel
theorem dX12_led_9 : decode cX12_led 9 = .ok (.ireturn, 1) := by decide +kernel
theorem dX12_led_10 : decode cX12_led 10 = .ok (.iload_n 2, 1) := by decide +kernel
theorem dX12_led_11 : decode cX12_led 11 = .ok (.tableswitch 68 0 4 #[33, 40, 47, 54, 61], 33) := by decide +kernel
theorem dX12_led_44 : decode cX12_led 44 = .ok (.aload_n 0, 1) := by decide +kernel
theorem dX12_led_45 : decode cX12_led 45 = .ok (.getfield 122, 3) := by decide +kernel
theorem dX12_led_48 : decode cX12_led 48 = .ok (.iload_n 1, 1) := by decide +kernel
theorem dX12_led_49 : decode cX12_led 49 = .ok (.iaload, 1) := by decide +kernel
theorem dX12_led_50 : decode cX12_led 50 = .ok (.ireturn, 1) := by decide +kernel
theorem dX12_led_51 : decode cX12_led 51 = .ok (.aload_n 0, 1) := by decide +kernel
theorem dX12_led_52 : decode cX12_led 52 = .ok (.getfield 125, 3) := by decide +kernel
theorem dX12_led_55 : decode cX12_led 55 = .ok (.iload_n 1, 1) := by decide +kernel
theorem dX12_led_56 : decode cX12_led 56 = .ok (.iaload, 1) := by decide +kernel
theorem dX12_led_57 : decode cX12_led 57 = .ok (.ireturn, 1) := by decide +kernel
theorem dX12_led_58 : decode cX12_led 58 = .ok (.aload_n 0, 1) := by decide +kernel
theorem dX12_led_59 : decode cX12_led 59 = .ok (.getfield 128, 3) := by decide +kernel
theorem dX12_led_62 : decode cX12_led 62 = .ok (.iload_n 1, 1) := by decide +kernel
theorem dX12_led_63 : decode cX12_led 63 = .ok (.iaload, 1) := by decide +kernel
theorem dX12_led_64 : decode cX12_led 64 = .ok (.ireturn, 1) := by decide +kernel
theorem dX12_led_65 : decode cX12_led 65 = .ok (.aload_n 0, 1) := by decide +kernel
theorem dX12_led_66 : decode cX12_led 66 = .ok (.getfield 131, 3) := by decide +kernel
theorem dX12_led_69 : decode cX12_led 69 = .ok (.iload_n 1, 1) := by decide +kernel
theorem dX12_led_70 : decode cX12_led 70 = .ok (.iaload, 1) := by decide +kernel
theorem dX12_led_71 : decode cX12_led 71 = .ok (.ireturn, 1) := by decide +kernel
theorem dX12_led_72 : decode cX12_led 72 = .ok (.aload_n 0, 1) := by decide +kernel
theorem dX12_led_73 : decode cX12_led 73 = .ok (.getfield 134, 3) := by decide +kernel
theorem dX12_led_76 : decode cX12_led 76 = .ok (.iload_n 1, 1) := by decide +kernel
theorem dX12_led_77 : decode cX12_led 77 = .ok (.iaload, 1) := by decide +kernel
theorem dX12_led_78 : decode cX12_led 78 = .ok (.ireturn, 1) := by decide +kernel
theorem dX12_led_79 : decode cX12_led 79 = .ok (.iconst (-1), 1) := by decide +kernel
theorem dX12_led_80 : decode cX12_led 80 = .ok (.ireturn, 1) := by decide +kernel
theorem dX12_seed_0 : decode cX12_seed 0 = .ok (.iload_n 1, 1) := by decide +kernel
theorem dX12_seed_1 : decode cX12_seed 1 = .ok (.iconst 0, 1) := by decide +kernel
theorem dX12_seed_2 : decode cX12_seed 2 = .ok (.ldc_w 440, 3) := by decide +kernel
theorem dX12_seed_5 : decode cX12_seed 5 = .ok (.invokestatic 171, 3) := by decide +kernel
theorem dX12_seed_8 : decode cX12_seed 8 = .ok (.ifCond .ne 5, 3) := by decide +kernel
theorem dX12_seed_11 : decode cX12_seed 11 = .ok (.iconst 0, 1) := by decide +kernel
theorem dX12_seed_12 : decode cX12_seed 12 = .ok (.ireturn, 1) := by decide +kernel
theorem dX12_seed_13 : decode cX12_seed 13 = .ok (.aload_n 0, 1) := by decide +kernel
theorem dX12_seed_14 : decode cX12_seed 14 = .ok (.iload_n 1, 1) := by decide +kernel
theorem dX12_seed_15 : decode cX12_seed 15 = .ok (.putfield 164, 3) := by decide +kernel
theorem dX12_seed_18 : decode cX12_seed 18 = .ok (.iconst 1, 1) := by decide +kernel
theorem dX12_seed_19 : decode cX12_seed 19 = .ok (.ireturn, 1) := by decide +kernel
theorem dX12_guestBeside_0 : decode cX12_guestBeside 0 = .ok (.aload_n 0, 1) := by decide +kernel
theorem dX12_guestBeside_1 : decode cX12_guestBeside 1 = .ok (.getfield 13, 3) := by decide +kernel
theorem dX12_guestBeside_4 : decode cX12_guestBeside 4 = .ok (.iload_n 1, 1) := by decide +kernel
theorem dX12_guestBeside_5 : decode cX12_guestBeside 5 = .ok (.iaload, 1) := by decide +kernel
theorem dX12_guestBeside_6 : decode cX12_guestBeside 6 = .ok (.iload_n 2, 1) := by decide +kernel
theorem dX12_guestBeside_7 : decode cX12_guestBeside 7 = .ok (.invokestatic 306, 3) := by decide +kernel
theorem dX12_guestBeside_10 : decode cX12_guestBeside 10 = .ok (.istore_n 3, 1) := by decide +kernel
theorem dX12_guestBeside_11 : decode cX12_guestBeside 11 = .ok (.iload_n 3, 1) := by decide +kernel
theorem dX12_guestBeside_12 : decode cX12_guestBeside 12 = .ok (.iconst (-1), 1) := by decide +kernel
theorem dX12_guestBeside_13 : decode cX12_guestBeside 13 = .ok (.if_icmp .ne 7, 3) := by decide +kernel
theorem dX12_guestBeside_16 : decode cX12_guestBeside 16 = .ok (.iconst (-1), 1) := by decide +kernel
theorem dX12_guestBeside_17 : decode cX12_guestBeside 17 = .ok (.goto 8, 3) := by decide +kernel
theorem dX12_guestBeside_20 : decode cX12_guestBeside 20 = .ok (.aload_n 0, 1) := by decide +kernel
theorem dX12_guestBeside_21 : decode cX12_guestBeside 21 = .ok (.iload_n 3, 1) := by decide +kernel
theorem dX12_guestBeside_22 : decode cX12_guestBeside 22 = .ok (.invokevirtual 179, 3) := by decide +kernel
theorem dX12_guestBeside_25 : decode cX12_guestBeside 25 = .ok (.ireturn, 1) := by decide +kernel
theorem dX12_draw_0 : decode cX12_draw 0 = .ok (.iload_n 1, 1) := by decide +kernel
theorem dX12_draw_1 : decode cX12_draw 1 = .ok (.iconst 1, 1) := by decide +kernel
theorem dX12_draw_2 : decode cX12_draw 2 = .ok (.bipush 60, 2) := by decide +kernel
theorem dX12_draw_4 : decode cX12_draw 4 = .ok (.invokestatic 171, 3) := by decide +kernel
theorem dX12_draw_7 : decode cX12_draw 7 = .ok (.ifCond .ne 5, 3) := by decide +kernel
theorem dX12_draw_10 : decode cX12_draw 10 = .ok (.iconst (-1), 1) := by decide +kernel
theorem dX12_draw_11 : decode cX12_draw 11 = .ok (.ireturn, 1) := by decide +kernel
theorem dX12_draw_12 : decode cX12_draw 12 = .ok (.iconst 0, 1) := by decide +kernel
theorem dX12_draw_13 : decode cX12_draw 13 = .ok (.istore_n 2, 1) := by decide +kernel
theorem dX12_draw_14 : decode cX12_draw 14 = .ok (.iconst 0, 1) := by decide +kernel
theorem dX12_draw_15 : decode cX12_draw 15 = .ok (.istore_n 3, 1) := by decide +kernel
theorem dX12_draw_16 : decode cX12_draw 16 = .ok (.iload_n 3, 1) := by decide +kernel
theorem dX12_draw_17 : decode cX12_draw 17 = .ok (.iload_n 1, 1) := by decide +kernel
theorem dX12_draw_18 : decode cX12_draw 18 = .ok (.if_icmp .ge 121, 3) := by decide +kernel
theorem dX12_draw_21 : decode cX12_draw 21 = .ok (.aload_n 0, 1) := by decide +kernel
theorem dX12_draw_22 : decode cX12_draw 22 = .ok (.sipush 25173, 3) := by decide +kernel
theorem dX12_draw_25 : decode cX12_draw 25 = .ok (.aload_n 0, 1) := by decide +kernel
theorem dX12_draw_26 : decode cX12_draw 26 = .ok (.getfield 164, 3) := by decide +kernel
theorem dX12_draw_29 : decode cX12_draw 29 = .ok (.imul, 1) := by decide +kernel
theorem dX12_draw_30 : decode cX12_draw 30 = .ok (.sipush 13849, 3) := by decide +kernel
theorem dX12_draw_33 : decode cX12_draw 33 = .ok (.iadd, 1) := by decide +kernel
theorem dX12_draw_34 : decode cX12_draw 34 = .ok (.ldc_w 441, 3) := by decide +kernel
theorem dX12_draw_37 : decode cX12_draw 37 = .ok (.irem, 1) := by decide +kernel
theorem dX12_draw_38 : decode cX12_draw 38 = .ok (.putfield 164, 3) := by decide +kernel
theorem dX12_draw_41 : decode cX12_draw 41 = .ok (.aload_n 0, 1) := by decide +kernel
theorem dX12_draw_42 : decode cX12_draw 42 = .ok (.getfield 164, 3) := by decide +kernel
theorem dX12_draw_45 : decode cX12_draw 45 = .ok (.bipush 16, 2) := by decide +kernel
theorem dX12_draw_47 : decode cX12_draw 47 = .ok (.irem, 1) := by decide +kernel
theorem dX12_draw_48 : decode cX12_draw 48 = .ok (.istore 4, 2) := by decide +kernel
theorem dX12_draw_50 : decode cX12_draw 50 = .ok (.aload_n 0, 1) := by decide +kernel
theorem dX12_draw_51 : decode cX12_draw 51 = .ok (.iload 4, 2) := by decide +kernel
theorem dX12_draw_53 : decode cX12_draw 53 = .ok (.invokevirtual 183, 3) := by decide +kernel
theorem dX12_draw_56 : decode cX12_draw 56 = .ok (.ifCond .eq 77, 3) := by decide +kernel
theorem dX12_draw_59 : decode cX12_draw 59 = .ok (.aload_n 0, 1) := by decide +kernel
theorem dX12_draw_60 : decode cX12_draw 60 = .ok (.iload 4, 2) := by decide +kernel
theorem dX12_draw_62 : decode cX12_draw 62 = .ok (.invokevirtual 309, 3) := by decide +kernel
theorem dX12_draw_65 : decode cX12_draw 65 = .ok (.ifCond .ne 6, 3) := by decide +kernel
theorem dX12_draw_68 : decode cX12_draw 68 = .ok (.goto 65, 3) := by decide +kernel
theorem dX12_draw_71 : decode cX12_draw 71 = .ok (.aload_n 0, 1) := by decide +kernel
theorem dX12_draw_72 : decode cX12_draw 72 = .ok (.iload 4, 2) := by decide +kernel
theorem dX12_draw_74 : decode cX12_draw 74 = .ok (.aload_n 0, 1) := by decide +kernel
theorem dX12_draw_75 : decode cX12_draw 75 = .ok (.getfield 164, 3) := by decide +kernel
theorem dX12_draw_78 : decode cX12_draw 78 = .ok (.bipush 16, 2) := by decide +kernel
theorem dX12_draw_80 : decode cX12_draw 80 = .ok (.idiv, 1) := by decide +kernel
theorem dX12_draw_81 : decode cX12_draw 81 = .ok (.iconst 3, 1) := by decide +kernel
theorem dX12_draw_82 : decode cX12_draw 82 = .ok (.irem, 1) := by decide +kernel
theorem dX12_draw_83 : decode cX12_draw 83 = .ok (.invokevirtual 442, 3) := by decide +kernel
theorem dX12_draw_86 : decode cX12_draw 86 = .ok (.istore 5, 2) := by decide +kernel
theorem dX12_draw_88 : decode cX12_draw 88 = .ok (.iload 5, 2) := by decide +kernel
theorem dX12_draw_90 : decode cX12_draw 90 = .ok (.iconst (-1), 1) := by decide +kernel
theorem dX12_draw_91 : decode cX12_draw 91 = .ok (.if_icmp .eq 42, 3) := by decide +kernel
theorem dX12_draw_94 : decode cX12_draw 94 = .ok (.aload_n 0, 1) := by decide +kernel
theorem dX12_draw_95 : decode cX12_draw 95 = .ok (.iload 4, 2) := by decide +kernel
theorem dX12_draw_97 : decode cX12_draw 97 = .ok (.iload 5, 2) := by decide +kernel
theorem dX12_draw_99 : decode cX12_draw 99 = .ok (.iconst 1, 1) := by decide +kernel
theorem dX12_draw_100 : decode cX12_draw 100 = .ok (.invokevirtual 433, 3) := by decide +kernel
theorem dX12_draw_103 : decode cX12_draw 103 = .ok (.ifCond .eq 30, 3) := by decide +kernel
theorem dX12_draw_106 : decode cX12_draw 106 = .ok (.aload_n 0, 1) := by decide +kernel
theorem dX12_draw_107 : decode cX12_draw 107 = .ok (.getfield 122, 3) := by decide +kernel
theorem dX12_draw_110 : decode cX12_draw 110 = .ok (.iload 4, 2) := by decide +kernel
theorem dX12_draw_112 : decode cX12_draw 112 = .ok (.iaload, 1) := by decide +kernel
theorem dX12_draw_113 : decode cX12_draw 113 = .ok (.iconst 1, 1) := by decide +kernel
theorem dX12_draw_114 : decode cX12_draw 114 = .ok (.if_icmp .ge 6, 3) := by decide +kernel
theorem dX12_draw_117 : decode cX12_draw 117 = .ok (.goto 16, 3) := by decide +kernel
theorem dX12_draw_120 : decode cX12_draw 120 = .ok (.aload_n 0, 1) := by decide +kernel
theorem dX12_draw_121 : decode cX12_draw 121 = .ok (.iload 4, 2) := by decide +kernel
theorem dX12_draw_123 : decode cX12_draw 123 = .ok (.iload 5, 2) := by decide +kernel
theorem dX12_draw_125 : decode cX12_draw 125 = .ok (.iconst 1, 1) := by decide +kernel
theorem dX12_draw_126 : decode cX12_draw 126 = .ok (.invokevirtual 436, 3) := by decide +kernel
theorem dX12_draw_129 : decode cX12_draw 129 = .ok (.iload_n 2, 1) := by decide +kernel
theorem dX12_draw_130 : decode cX12_draw 130 = .ok (.iconst 1, 1) := by decide +kernel
theorem dX12_draw_131 : decode cX12_draw 131 = .ok (.iadd, 1) := by decide +kernel
theorem dX12_draw_132 : decode cX12_draw 132 = .ok (.istore_n 2, 1) := by decide +kernel
theorem dX12_draw_133 : decode cX12_draw 133 = .ok (.iinc 3 1, 3) := by decide +kernel
theorem dX12_draw_136 : decode cX12_draw 136 = .ok (.goto (-120), 3) := by decide +kernel
theorem dX12_draw_139 : decode cX12_draw 139 = .ok (.iload_n 2, 1) := by decide +kernel
theorem dX12_draw_140 : decode cX12_draw 140 = .ok (.ireturn, 1) := by decide +kernel
theorem dX12_copies_0 : decode cX12_copies 0 = .ok (.iconst 0, 1) := by decide +kernel
theorem dX12_copies_1 : decode cX12_copies 1 = .ok (.istore_n 3, 1) := by decide +kernel
theorem dX12_copies_2 : decode cX12_copies 2 = .ok (.iload_n 3, 1) := by decide +kernel
theorem dX12_copies_3 : decode cX12_copies 3 = .ok (.iload_n 2, 1) := by decide +kernel
theorem dX12_copies_4 : decode cX12_copies 4 = .ok (.if_icmp .ge 15, 3) := by decide +kernel
theorem dX12_copies_7 : decode cX12_copies 7 = .ok (.aload_n 1, 1) := by decide +kernel
theorem dX12_copies_8 : decode cX12_copies 8 = .ok (.iload_n 3, 1) := by decide +kernel
theorem dX12_copies_9 : decode cX12_copies 9 = .ok (.aload_n 0, 1) := by decide +kernel
theorem dX12_copies_10 : decode cX12_copies 10 = .ok (.iload_n 3, 1) := by decide +kernel
theorem dX12_copies_11 : decode cX12_copies 11 = .ok (.iaload, 1) := by decide +kernel
theorem dX12_copies_12 : decode cX12_copies 12 = .ok (.iastore, 1) := by decide +kernel
theorem dX12_copies_13 : decode cX12_copies 13 = .ok (.iinc 3 1, 3) := by decide +kernel
theorem dX12_copies_16 : decode cX12_copies 16 = .ok (.goto (-14), 3) := by decide +kernel
theorem dX12_copies_19 : decode cX12_copies 19 = .ok (.return_, 1) := by decide +kernel
theorem dX12_keep_0 : decode cX12_keep 0 = .ok (.aload_n 0, 1) := by decide +kernel
theorem dX12_keep_1 : decode cX12_keep 1 = .ok (.iconst 1, 1) := by decide +kernel
theorem dX12_keep_2 : decode cX12_keep 2 = .ok (.putfield 445, 3) := by decide +kernel
theorem dX12_keep_5 : decode cX12_keep 5 = .ok (.aload_n 0, 1) := by decide +kernel
theorem dX12_keep_6 : decode cX12_keep 6 = .ok (.aload_n 0, 1) := by decide +kernel
theorem dX12_keep_7 : decode cX12_keep 7 = .ok (.getfield 168, 3) := by decide +kernel
theorem dX12_keep_10 : decode cX12_keep 10 = .ok (.putfield 449, 3) := by decide +kernel
theorem dX12_keep_13 : decode cX12_keep 13 = .ok (.aload_n 0, 1) := by decide +kernel
theorem dX12_keep_14 : decode cX12_keep 14 = .ok (.aload_n 0, 1) := by decide +kernel
theorem dX12_keep_15 : decode cX12_keep 15 = .ok (.getfield 164, 3) := by decide +kernel
theorem dX12_keep_18 : decode cX12_keep 18 = .ok (.putfield 452, 3) := by decide +kernel
theorem dX12_keep_21 : decode cX12_keep 21 = .ok (.aload_n 0, 1) := by decide +kernel
theorem dX12_keep_22 : decode cX12_keep 22 = .ok (.getfield 13, 3) := by decide +kernel
theorem dX12_keep_25 : decode cX12_keep 25 = .ok (.aload_n 0, 1) := by decide +kernel
theorem dX12_keep_26 : decode cX12_keep 26 = .ok (.getfield 140, 3) := by decide +kernel
theorem dX12_keep_29 : decode cX12_keep 29 = .ok (.bipush 16, 2) := by decide +kernel
theorem dX12_keep_31 : decode cX12_keep 31 = .ok (.invokestatic 455, 3) := by decide +kernel
theorem dX12_keep_34 : decode cX12_keep 34 = .ok (.aload_n 0, 1) := by decide +kernel
theorem dX12_keep_35 : decode cX12_keep 35 = .ok (.getfield 101, 3) := by decide +kernel
theorem dX12_keep_38 : decode cX12_keep 38 = .ok (.aload_n 0, 1) := by decide +kernel
theorem dX12_keep_39 : decode cX12_keep 39 = .ok (.getfield 143, 3) := by decide +kernel
theorem dX12_keep_42 : decode cX12_keep 42 = .ok (.bipush 40, 2) := by decide +kernel
theorem dX12_keep_44 : decode cX12_keep 44 = .ok (.invokestatic 455, 3) := by decide +kernel
theorem dX12_keep_47 : decode cX12_keep 47 = .ok (.aload_n 0, 1) := by decide +kernel
theorem dX12_keep_48 : decode cX12_keep 48 = .ok (.getfield 122, 3) := by decide +kernel
theorem dX12_keep_51 : decode cX12_keep 51 = .ok (.aload_n 0, 1) := by decide +kernel
theorem dX12_keep_52 : decode cX12_keep 52 = .ok (.getfield 146, 3) := by decide +kernel
theorem dX12_keep_55 : decode cX12_keep 55 = .ok (.bipush 16, 2) := by decide +kernel
theorem dX12_keep_57 : decode cX12_keep 57 = .ok (.invokestatic 455, 3) := by decide +kernel
theorem dX12_keep_60 : decode cX12_keep 60 = .ok (.aload_n 0, 1) := by decide +kernel
theorem dX12_keep_61 : decode cX12_keep 61 = .ok (.getfield 125, 3) := by decide +kernel
theorem dX12_keep_64 : decode cX12_keep 64 = .ok (.aload_n 0, 1) := by decide +kernel
theorem dX12_keep_65 : decode cX12_keep 65 = .ok (.getfield 149, 3) := by decide +kernel
theorem dX12_keep_68 : decode cX12_keep 68 = .ok (.bipush 16, 2) := by decide +kernel
theorem dX12_keep_70 : decode cX12_keep 70 = .ok (.invokestatic 455, 3) := by decide +kernel
theorem dX12_keep_73 : decode cX12_keep 73 = .ok (.aload_n 0, 1) := by decide +kernel
theorem dX12_keep_74 : decode cX12_keep 74 = .ok (.getfield 128, 3) := by decide +kernel
theorem dX12_keep_77 : decode cX12_keep 77 = .ok (.aload_n 0, 1) := by decide +kernel
theorem dX12_keep_78 : decode cX12_keep 78 = .ok (.getfield 152, 3) := by decide +kernel
theorem dX12_keep_81 : decode cX12_keep 81 = .ok (.bipush 16, 2) := by decide +kernel
theorem dX12_keep_83 : decode cX12_keep 83 = .ok (.invokestatic 455, 3) := by decide +kernel
theorem dX12_keep_86 : decode cX12_keep 86 = .ok (.aload_n 0, 1) := by decide +kernel
theorem dX12_keep_87 : decode cX12_keep 87 = .ok (.getfield 131, 3) := by decide +kernel
theorem dX12_keep_90 : decode cX12_keep 90 = .ok (.aload_n 0, 1) := by decide +kernel
theorem dX12_keep_91 : decode cX12_keep 91 = .ok (.getfield 155, 3) := by decide +kernel
theorem dX12_keep_94 : decode cX12_keep 94 = .ok (.bipush 16, 2) := by decide +kernel
theorem dX12_keep_96 : decode cX12_keep 96 = .ok (.invokestatic 455, 3) := by decide +kernel
theorem dX12_keep_99 : decode cX12_keep 99 = .ok (.aload_n 0, 1) := by decide +kernel
theorem dX12_keep_100 : decode cX12_keep 100 = .ok (.getfield 134, 3) := by decide +kernel
theorem dX12_keep_103 : decode cX12_keep 103 = .ok (.aload_n 0, 1) := by decide +kernel
theorem dX12_keep_104 : decode cX12_keep 104 = .ok (.getfield 158, 3) := by decide +kernel
theorem dX12_keep_107 : decode cX12_keep 107 = .ok (.bipush 16, 2) := by decide +kernel
theorem dX12_keep_109 : decode cX12_keep 109 = .ok (.invokestatic 455, 3) := by decide +kernel
theorem dX12_keep_112 : decode cX12_keep 112 = .ok (.aload_n 0, 1) := by decide +kernel
theorem dX12_keep_113 : decode cX12_keep 113 = .ok (.getfield 137, 3) := by decide +kernel
theorem dX12_keep_116 : decode cX12_keep 116 = .ok (.aload_n 0, 1) := by decide +kernel
theorem dX12_keep_117 : decode cX12_keep 117 = .ok (.getfield 161, 3) := by decide +kernel
theorem dX12_keep_120 : decode cX12_keep 120 = .ok (.sipush 256, 3) := by decide +kernel
theorem dX12_keep_123 : decode cX12_keep 123 = .ok (.invokestatic 455, 3) := by decide +kernel
theorem dX12_keep_126 : decode cX12_keep 126 = .ok (.iconst 0, 1) := by decide +kernel
theorem dX12_keep_127 : decode cX12_keep 127 = .ok (.istore_n 1, 1) := by decide +kernel
theorem dX12_keep_128 : decode cX12_keep 128 = .ok (.iconst 0, 1) := by decide +kernel
theorem dX12_keep_129 : decode cX12_keep 129 = .ok (.istore_n 2, 1) := by decide +kernel
theorem dX12_keep_130 : decode cX12_keep 130 = .ok (.iload_n 2, 1) := by decide +kernel
theorem dX12_keep_131 : decode cX12_keep 131 = .ok (.aload_n 0, 1) := by decide +kernel
theorem dX12_keep_132 : decode cX12_keep 132 = .ok (.getfield 168, 3) := by decide +kernel
theorem dX12_keep_135 : decode cX12_keep 135 = .ok (.if_icmp .ge 25, 3) := by decide +kernel
theorem dX12_keep_138 : decode cX12_keep 138 = .ok (.iload_n 1, 1) := by decide +kernel
theorem dX12_keep_139 : decode cX12_keep 139 = .ok (.aload_n 0, 1) := by decide +kernel
theorem dX12_keep_140 : decode cX12_keep 140 = .ok (.iload_n 2, 1) := by decide +kernel
theorem dX12_keep_141 : decode cX12_keep 141 = .ok (.invokevirtual 309, 3) := by decide +kernel
theorem dX12_keep_144 : decode cX12_keep 144 = .ok (.ifCond .eq 7, 3) := by decide +kernel
theorem dX12_keep_147 : decode cX12_keep 147 = .ok (.iconst 1, 1) := by decide +kernel
theorem dX12_keep_148 : decode cX12_keep 148 = .ok (.goto 4, 3) := by decide +kernel
theorem dX12_keep_151 : decode cX12_keep 151 = .ok (.iconst 0, 1) := by decide +kernel
theorem dX12_keep_152 : decode cX12_keep 152 = .ok (.iadd, 1) := by decide +kernel
theorem dX12_keep_153 : decode cX12_keep 153 = .ok (.istore_n 1, 1) := by decide +kernel
theorem dX12_keep_154 : decode cX12_keep 154 = .ok (.iinc 2 1, 3) := by decide +kernel
theorem dX12_keep_157 : decode cX12_keep 157 = .ok (.goto (-27), 3) := by decide +kernel
theorem dX12_keep_160 : decode cX12_keep 160 = .ok (.iload_n 1, 1) := by decide +kernel
theorem dX12_keep_161 : decode cX12_keep 161 = .ok (.ireturn, 1) := by decide +kernel
theorem dX12_undo_0 : decode cX12_undo 0 = .ok (.aload_n 0, 1) := by decide +kernel
theorem dX12_undo_1 : decode cX12_undo 1 = .ok (.getfield 445, 3) := by decide +kernel
theorem dX12_undo_4 : decode cX12_undo 4 = .ok (.ifCond .eq 14, 3) := by decide +kernel
theorem dX12_undo_7 : decode cX12_undo 7 = .ok (.aload_n 0, 1) := by decide +kernel
theorem dX12_undo_8 : decode cX12_undo 8 = .ok (.getfield 168, 3) := by decide +kernel
theorem dX12_undo_11 : decode cX12_undo 11 = .ok (.aload_n 0, 1) := by decide +kernel
theorem dX12_undo_12 : decode cX12_undo 12 = .ok (.getfield 449, 3) := by decide +kernel
theorem dX12_undo_15 : decode cX12_undo 15 = .ok (.if_icmp .eq 5, 3) := by decide +kernel
theorem dX12_undo_18 : decode cX12_undo 18 = .ok (.iconst 0, 1) := by decide +kernel
theorem dX12_undo_19 : decode cX12_undo 19 = .ok (.ireturn, 1) := by decide +kernel
theorem dX12_undo_20 : decode cX12_undo 20 = .ok (.aload_n 0, 1) := by decide +kernel
theorem dX12_undo_21 : decode cX12_undo 21 = .ok (.aload_n 0, 1) := by decide +kernel
theorem dX12_undo_22 : decode cX12_undo 22 = .ok (.getfield 452, 3) := by decide +kernel
theorem dX12_undo_25 : decode cX12_undo 25 = .ok (.putfield 164, 3) := by decide +kernel
theorem dX12_undo_28 : decode cX12_undo 28 = .ok (.aload_n 0, 1) := by decide +kernel
theorem dX12_undo_29 : decode cX12_undo 29 = .ok (.getfield 140, 3) := by decide +kernel
theorem dX12_undo_32 : decode cX12_undo 32 = .ok (.aload_n 0, 1) := by decide +kernel
theorem dX12_undo_33 : decode cX12_undo 33 = .ok (.getfield 13, 3) := by decide +kernel
theorem dX12_undo_36 : decode cX12_undo 36 = .ok (.bipush 16, 2) := by decide +kernel
theorem dX12_undo_38 : decode cX12_undo 38 = .ok (.invokestatic 455, 3) := by decide +kernel
theorem dX12_undo_41 : decode cX12_undo 41 = .ok (.aload_n 0, 1) := by decide +kernel
theorem dX12_undo_42 : decode cX12_undo 42 = .ok (.getfield 143, 3) := by decide +kernel
theorem dX12_undo_45 : decode cX12_undo 45 = .ok (.aload_n 0, 1) := by decide +kernel
theorem dX12_undo_46 : decode cX12_undo 46 = .ok (.getfield 101, 3) := by decide +kernel
theorem dX12_undo_49 : decode cX12_undo 49 = .ok (.bipush 40, 2) := by decide +kernel
theorem dX12_undo_51 : decode cX12_undo 51 = .ok (.invokestatic 455, 3) := by decide +kernel
theorem dX12_undo_54 : decode cX12_undo 54 = .ok (.aload_n 0, 1) := by decide +kernel
theorem dX12_undo_55 : decode cX12_undo 55 = .ok (.getfield 146, 3) := by decide +kernel
theorem dX12_undo_58 : decode cX12_undo 58 = .ok (.aload_n 0, 1) := by decide +kernel
theorem dX12_undo_59 : decode cX12_undo 59 = .ok (.getfield 122, 3) := by decide +kernel
theorem dX12_undo_62 : decode cX12_undo 62 = .ok (.bipush 16, 2) := by decide +kernel
theorem dX12_undo_64 : decode cX12_undo 64 = .ok (.invokestatic 455, 3) := by decide +kernel
theorem dX12_undo_67 : decode cX12_undo 67 = .ok (.aload_n 0, 1) := by decide +kernel
theorem dX12_undo_68 : decode cX12_undo 68 = .ok (.getfield 149, 3) := by decide +kernel
theorem dX12_undo_71 : decode cX12_undo 71 = .ok (.aload_n 0, 1) := by decide +kernel
theorem dX12_undo_72 : decode cX12_undo 72 = .ok (.getfield 125, 3) := by decide +kernel
theorem dX12_undo_75 : decode cX12_undo 75 = .ok (.bipush 16, 2) := by decide +kernel
theorem dX12_undo_77 : decode cX12_undo 77 = .ok (.invokestatic 455, 3) := by decide +kernel
theorem dX12_undo_80 : decode cX12_undo 80 = .ok (.aload_n 0, 1) := by decide +kernel
theorem dX12_undo_81 : decode cX12_undo 81 = .ok (.getfield 152, 3) := by decide +kernel
theorem dX12_undo_84 : decode cX12_undo 84 = .ok (.aload_n 0, 1) := by decide +kernel
theorem dX12_undo_85 : decode cX12_undo 85 = .ok (.getfield 128, 3) := by decide +kernel
theorem dX12_undo_88 : decode cX12_undo 88 = .ok (.bipush 16, 2) := by decide +kernel
theorem dX12_undo_90 : decode cX12_undo 90 = .ok (.invokestatic 455, 3) := by decide +kernel
theorem dX12_undo_93 : decode cX12_undo 93 = .ok (.aload_n 0, 1) := by decide +kernel
theorem dX12_undo_94 : decode cX12_undo 94 = .ok (.getfield 155, 3) := by decide +kernel
theorem dX12_undo_97 : decode cX12_undo 97 = .ok (.aload_n 0, 1) := by decide +kernel
theorem dX12_undo_98 : decode cX12_undo 98 = .ok (.getfield 131, 3) := by decide +kernel
theorem dX12_undo_101 : decode cX12_undo 101 = .ok (.bipush 16, 2) := by decide +kernel
theorem dX12_undo_103 : decode cX12_undo 103 = .ok (.invokestatic 455, 3) := by decide +kernel
theorem dX12_undo_106 : decode cX12_undo 106 = .ok (.aload_n 0, 1) := by decide +kernel
theorem dX12_undo_107 : decode cX12_undo 107 = .ok (.getfield 158, 3) := by decide +kernel
theorem dX12_undo_110 : decode cX12_undo 110 = .ok (.aload_n 0, 1) := by decide +kernel
theorem dX12_undo_111 : decode cX12_undo 111 = .ok (.getfield 134, 3) := by decide +kernel
theorem dX12_undo_114 : decode cX12_undo 114 = .ok (.bipush 16, 2) := by decide +kernel
theorem dX12_undo_116 : decode cX12_undo 116 = .ok (.invokestatic 455, 3) := by decide +kernel
theorem dX12_undo_119 : decode cX12_undo 119 = .ok (.aload_n 0, 1) := by decide +kernel
theorem dX12_undo_120 : decode cX12_undo 120 = .ok (.getfield 161, 3) := by decide +kernel
theorem dX12_undo_123 : decode cX12_undo 123 = .ok (.aload_n 0, 1) := by decide +kernel
theorem dX12_undo_124 : decode cX12_undo 124 = .ok (.getfield 137, 3) := by decide +kernel
theorem dX12_undo_127 : decode cX12_undo 127 = .ok (.sipush 256, 3) := by decide +kernel
theorem dX12_undo_130 : decode cX12_undo 130 = .ok (.invokestatic 455, 3) := by decide +kernel
theorem dX12_undo_133 : decode cX12_undo 133 = .ok (.iconst 1, 1) := by decide +kernel
theorem dX12_undo_134 : decode cX12_undo 134 = .ok (.ireturn, 1) := by decide +kernel
theorem dX12_tapeNumber_0 : decode cX12_tapeNumber 0 = .ok (.iconst 0, 1) := by decide +kernel
theorem dX12_tapeNumber_1 : decode cX12_tapeNumber 1 = .ok (.istore_n 2, 1) := by decide +kernel
theorem dX12_tapeNumber_2 : decode cX12_tapeNumber 2 = .ok (.iconst 4, 1) := by decide +kernel
theorem dX12_tapeNumber_3 : decode cX12_tapeNumber 3 = .ok (.iload_n 1, 1) := by decide +kernel
theorem dX12_tapeNumber_4 : decode cX12_tapeNumber 4 = .ok (.imul, 1) := by decide +kernel
theorem dX12_tapeNumber_5 : decode cX12_tapeNumber 5 = .ok (.istore_n 3, 1) := by decide +kernel
theorem dX12_tapeNumber_6 : decode cX12_tapeNumber 6 = .ok (.iload_n 3, 1) := by decide +kernel
theorem dX12_tapeNumber_7 : decode cX12_tapeNumber 7 = .ok (.iconst 4, 1) := by decide +kernel
theorem dX12_tapeNumber_8 : decode cX12_tapeNumber 8 = .ok (.iload_n 1, 1) := by decide +kernel
theorem dX12_tapeNumber_9 : decode cX12_tapeNumber 9 = .ok (.imul, 1) := by decide +kernel
theorem dX12_tapeNumber_10 : decode cX12_tapeNumber 10 = .ok (.iconst 4, 1) := by decide +kernel
theorem dX12_tapeNumber_11 : decode cX12_tapeNumber 11 = .ok (.iadd, 1) := by decide +kernel
theorem dX12_tapeNumber_12 : decode cX12_tapeNumber 12 = .ok (.if_icmp .ge 25, 3) := by decide +kernel
theorem dX12_tapeNumber_15 : decode cX12_tapeNumber 15 = .ok (.iload_n 2, 1) := by decide +kernel
theorem dX12_tapeNumber_16 : decode cX12_tapeNumber 16 = .ok (.bipush 8, 2) := by decide +kernel
theorem dX12_tapeNumber_18 : decode cX12_tapeNumber 18 = .ok (.ishl, 1) := by decide +kernel
theorem dX12_tapeNumber_19 : decode cX12_tapeNumber 19 = .ok (.aload_n 0, 1) := by decide +kernel
theorem dX12_tapeNumber_20 : decode cX12_tapeNumber 20 = .ok (.getfield 22, 3) := by decide +kernel
theorem dX12_tapeNumber_23 : decode cX12_tapeNumber 23 = .ok (.iload_n 3, 1) := by decide +kernel
theorem dX12_tapeNumber_24 : decode cX12_tapeNumber 24 = .ok (.baload, 1) := by decide +kernel
theorem dX12_tapeNumber_25 : decode cX12_tapeNumber 25 = .ok (.sipush 255, 3) := by decide +kernel
theorem dX12_tapeNumber_28 : decode cX12_tapeNumber 28 = .ok (.iand, 1) := by decide +kernel
theorem dX12_tapeNumber_29 : decode cX12_tapeNumber 29 = .ok (.ior, 1) := by decide +kernel
theorem dX12_tapeNumber_30 : decode cX12_tapeNumber 30 = .ok (.istore_n 2, 1) := by decide +kernel
theorem dX12_tapeNumber_31 : decode cX12_tapeNumber 31 = .ok (.iinc 3 1, 3) := by decide +kernel
theorem dX12_tapeNumber_34 : decode cX12_tapeNumber 34 = .ok (.goto (-28), 3) := by decide +kernel
theorem dX12_tapeNumber_37 : decode cX12_tapeNumber 37 = .ok (.iload_n 2, 1) := by decide +kernel
theorem dX12_tapeNumber_38 : decode cX12_tapeNumber 38 = .ok (.ireturn, 1) := by decide +kernel
theorem dX12_check_0 : decode cX12_check 0 = .ok (.iload_n 1, 1) := by decide +kernel
theorem dX12_check_1 : decode cX12_check 1 = .ok (.iconst 0, 1) := by decide +kernel
theorem dX12_check_2 : decode cX12_check 2 = .ok (.iconst 1, 1) := by decide +kernel
theorem dX12_check_3 : decode cX12_check 3 = .ok (.invokestatic 171, 3) := by decide +kernel
theorem dX12_check_6 : decode cX12_check 6 = .ok (.ifCond .eq 23, 3) := by decide +kernel
theorem dX12_check_9 : decode cX12_check 9 = .ok (.iload_n 2, 1) := by decide +kernel
theorem dX12_check_10 : decode cX12_check 10 = .ok (.iconst 0, 1) := by decide +kernel
theorem dX12_check_11 : decode cX12_check 11 = .ok (.bipush 20, 2) := by decide +kernel
theorem dX12_check_13 : decode cX12_check 13 = .ok (.invokestatic 171, 3) := by decide +kernel
theorem dX12_check_16 : decode cX12_check 16 = .ok (.ifCond .eq 13, 3) := by decide +kernel
theorem dX12_check_19 : decode cX12_check 19 = .ok (.iload_n 2, 1) := by decide +kernel
theorem dX12_check_20 : decode cX12_check 20 = .ok (.aload_n 0, 1) := by decide +kernel
theorem dX12_check_21 : decode cX12_check 21 = .ok (.getfield 186, 3) := by decide +kernel
theorem dX12_check_24 : decode cX12_check 24 = .ok (.iconst 4, 1) := by decide +kernel
theorem dX12_check_25 : decode cX12_check 25 = .ok (.idiv, 1) := by decide +kernel
theorem dX12_check_26 : decode cX12_check 26 = .ok (.if_icmp .le 6, 3) := by decide +kernel
theorem dX12_check_29 : decode cX12_check 29 = .ok (.bipush (-2), 2) := by decide +kernel
theorem dX12_check_31 : decode cX12_check 31 = .ok (.ireturn, 1) := by decide +kernel
theorem dX12_check_32 : decode cX12_check 32 = .ok (.aload_n 0, 1) := by decide +kernel
theorem dX12_check_33 : decode cX12_check 33 = .ok (.iconst 0, 1) := by decide +kernel
theorem dX12_check_34 : decode cX12_check 34 = .ok (.putfield 186, 3) := by decide +kernel
theorem dX12_check_37 : decode cX12_check 37 = .ok (.iconst 0, 1) := by decide +kernel
theorem dX12_check_38 : decode cX12_check 38 = .ok (.istore_n 3, 1) := by decide +kernel
theorem dX12_check_39 : decode cX12_check 39 = .ok (.iload_n 3, 1) := by decide +kernel
theorem dX12_check_40 : decode cX12_check 40 = .ok (.iload_n 2, 1) := by decide +kernel
theorem dX12_check_41 : decode cX12_check 41 = .ok (.if_icmp .ge 28, 3) := by decide +kernel
theorem dX12_check_44 : decode cX12_check 44 = .ok (.aload_n 0, 1) := by decide +kernel
theorem dX12_check_45 : decode cX12_check 45 = .ok (.iload_n 3, 1) := by decide +kernel
theorem dX12_check_46 : decode cX12_check 46 = .ok (.invokevirtual 459, 3) := by decide +kernel
theorem dX12_check_49 : decode cX12_check 49 = .ok (.aload_n 0, 1) := by decide +kernel
theorem dX12_check_50 : decode cX12_check 50 = .ok (.iconst 2, 1) := by decide +kernel
theorem dX12_check_51 : decode cX12_check 51 = .ok (.iload_n 3, 1) := by decide +kernel
theorem dX12_check_52 : decode cX12_check 52 = .ok (.imul, 1) := by decide +kernel
theorem dX12_check_53 : decode cX12_check 53 = .ok (.iload_n 1, 1) := by decide +kernel
theorem dX12_check_54 : decode cX12_check 54 = .ok (.iadd, 1) := by decide +kernel
theorem dX12_check_55 : decode cX12_check 55 = .ok (.invokevirtual 179, 3) := by decide +kernel
theorem dX12_check_58 : decode cX12_check 58 = .ok (.if_icmp .eq 5, 3) := by decide +kernel
theorem dX12_check_61 : decode cX12_check 61 = .ok (.iload_n 3, 1) := by decide +kernel
theorem dX12_check_62 : decode cX12_check 62 = .ok (.ireturn, 1) := by decide +kernel
theorem dX12_check_63 : decode cX12_check 63 = .ok (.iinc 3 1, 3) := by decide +kernel
theorem dX12_check_66 : decode cX12_check 66 = .ok (.goto (-27), 3) := by decide +kernel
theorem dX12_check_69 : decode cX12_check 69 = .ok (.iconst (-1), 1) := by decide +kernel
theorem dX12_check_70 : decode cX12_check 70 = .ok (.ireturn, 1) := by decide +kernel
theorem dX12_count_0 : decode cX12_count 0 = .ok (.iload_n 1, 1) := by decide +kernel
theorem dX12_count_1 : decode cX12_count 1 = .ok (.tableswitch 78 0 6 #[43, 48, 53, 58, 63, 68, 73], 43) := by decide +kernel
theorem dX12_count_44 : decode cX12_count 44 = .ok (.aload_n 0, 1) := by decide +kernel
theorem dX12_count_45 : decode cX12_count 45 = .ok (.getfield 168, 3) := by decide +kernel
theorem dX12_count_48 : decode cX12_count 48 = .ok (.ireturn, 1) := by decide +kernel
theorem dX12_count_49 : decode cX12_count 49 = .ok (.aload_n 0, 1) := by decide +kernel
theorem dX12_count_50 : decode cX12_count 50 = .ok (.getfield 283, 3) := by decide +kernel
theorem dX12_count_53 : decode cX12_count 53 = .ok (.ireturn, 1) := by decide +kernel
theorem dX12_count_54 : decode cX12_count 54 = .ok (.aload_n 0, 1) := by decide +kernel
theorem dX12_count_55 : decode cX12_count 55 = .ok (.getfield 186, 3) := by decide +kernel
theorem dX12_count_58 : decode cX12_count 58 = .ok (.ireturn, 1) := by decide +kernel
theorem dX12_count_59 : decode cX12_count 59 = .ok (.aload_n 0, 1) := by decide +kernel
theorem dX12_count_60 : decode cX12_count 60 = .ok (.getfield 336, 3) := by decide +kernel
theorem dX12_count_63 : decode cX12_count 63 = .ok (.ireturn, 1) := by decide +kernel
theorem dX12_count_64 : decode cX12_count 64 = .ok (.aload_n 0, 1) := by decide +kernel
theorem dX12_count_65 : decode cX12_count 65 = .ok (.getfield 349, 3) := by decide +kernel
theorem dX12_count_68 : decode cX12_count 68 = .ok (.ireturn, 1) := by decide +kernel
theorem dX12_count_69 : decode cX12_count 69 = .ok (.aload_n 0, 1) := by decide +kernel
theorem dX12_count_70 : decode cX12_count 70 = .ok (.getfield 417, 3) := by decide +kernel
theorem dX12_count_73 : decode cX12_count 73 = .ok (.ireturn, 1) := by decide +kernel
theorem dX12_count_74 : decode cX12_count 74 = .ok (.aload_n 0, 1) := by decide +kernel
theorem dX12_count_75 : decode cX12_count 75 = .ok (.getfield 164, 3) := by decide +kernel
theorem dX12_count_78 : decode cX12_count 78 = .ok (.ireturn, 1) := by decide +kernel
theorem dX12_count_79 : decode cX12_count 79 = .ok (.iload_n 1, 1) := by decide +kernel
theorem dX12_count_80 : decode cX12_count 80 = .ok (.bipush 20, 2) := by decide +kernel
theorem dX12_count_82 : decode cX12_count 82 = .ok (.bipush 19, 2) := by decide +kernel
theorem dX12_count_84 : decode cX12_count 84 = .ok (.aload_n 0, 1) := by decide +kernel
theorem dX12_count_85 : decode cX12_count 85 = .ok (.getfield 168, 3) := by decide +kernel
theorem dX12_count_88 : decode cX12_count 88 = .ok (.iadd, 1) := by decide +kernel
theorem dX12_count_89 : decode cX12_count 89 = .ok (.invokestatic 171, 3) := by decide +kernel
theorem dX12_count_92 : decode cX12_count 92 = .ok (.ifCond .eq 13, 3) := by decide +kernel
theorem dX12_count_95 : decode cX12_count 95 = .ok (.aload_n 0, 1) := by decide +kernel
theorem dX12_count_96 : decode cX12_count 96 = .ok (.getfield 13, 3) := by decide +kernel
theorem dX12_count_99 : decode cX12_count 99 = .ok (.iload_n 1, 1) := by decide +kernel
theorem dX12_count_100 : decode cX12_count 100 = .ok (.bipush 20, 2) := by decide +kernel
theorem dX12_count_102 : decode cX12_count 102 = .ok (.isub, 1) := by decide +kernel
theorem dX12_count_103 : decode cX12_count 103 = .ok (.iaload, 1) := by decide +kernel
theorem dX12_count_104 : decode cX12_count 104 = .ok (.ireturn, 1) := by decide +kernel
theorem dX12_count_105 : decode cX12_count 105 = .ok (.iload_n 1, 1) := by decide +kernel
theorem dX12_count_106 : decode cX12_count 106 = .ok (.bipush 40, 2) := by decide +kernel
theorem dX12_count_108 : decode cX12_count 108 = .ok (.bipush 79, 2) := by decide +kernel
theorem dX12_count_110 : decode cX12_count 110 = .ok (.invokestatic 171, 3) := by decide +kernel
theorem dX12_count_113 : decode cX12_count 113 = .ok (.ifCond .eq 15, 3) := by decide +kernel
theorem dX12_count_116 : decode cX12_count 116 = .ok (.aload_n 0, 1) := by decide +kernel
theorem dX12_count_117 : decode cX12_count 117 = .ok (.getfield 101, 3) := by decide +kernel
theorem dX12_count_120 : decode cX12_count 120 = .ok (.iload_n 1, 1) := by decide +kernel
theorem dX12_count_121 : decode cX12_count 121 = .ok (.bipush 40, 2) := by decide +kernel
theorem dX12_count_123 : decode cX12_count 123 = .ok (.isub, 1) := by decide +kernel
theorem dX12_count_124 : decode cX12_count 124 = .ok (.iaload, 1) := by decide +kernel
theorem dX12_count_125 : decode cX12_count 125 = .ok (.goto 4, 3) := by decide +kernel
theorem dX12_count_128 : decode cX12_count 128 = .ok (.iconst (-1), 1) := by decide +kernel
theorem dX12_count_129 : decode cX12_count 129 = .ok (.ireturn, 1) := by decide +kernel
