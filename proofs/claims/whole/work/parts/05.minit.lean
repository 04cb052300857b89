-- part 05: the reference's constructor; made by wip/whole/gen05.py
theorem dX12_init_0 : decode cX12_init 0 = .ok (.aload_n 0, 1) := by decide +kernel
theorem dX12_init_1 : decode cX12_init 1 = .ok (.invokespecial 1, 3) := by decide +kernel
theorem dX12_init_4 : decode cX12_init 4 = .ok (.aload_n 0, 1) := by decide +kernel
theorem dX12_init_5 : decode cX12_init 5 = .ok (.bipush 40, 2) := by decide +kernel
theorem dX12_init_7 : decode cX12_init 7 = .ok (.newarray .int, 2) := by decide +kernel
theorem dX12_init_9 : decode cX12_init 9 = .ok (.putfield 7, 3) := by decide +kernel
theorem dX12_init_12 : decode cX12_init 12 = .ok (.aload_n 0, 1) := by decide +kernel
theorem dX12_init_13 : decode cX12_init 13 = .ok (.iconst (-1), 1) := by decide +kernel
theorem dX12_init_14 : decode cX12_init 14 = .ok (.putfield 13, 3) := by decide +kernel
theorem dX12_init_17 : decode cX12_init 17 = .ok (.aload_n 0, 1) := by decide +kernel
theorem dX12_init_18 : decode cX12_init 18 = .ok (.bipush 8, 2) := by decide +kernel
theorem dX12_init_20 : decode cX12_init 20 = .ok (.newarray .int, 2) := by decide +kernel
theorem dX12_init_22 : decode cX12_init 22 = .ok (.putfield 17, 3) := by decide +kernel
theorem dX12_init_25 : decode cX12_init 25 = .ok (.aload_n 0, 1) := by decide +kernel
theorem dX12_init_26 : decode cX12_init 26 = .ok (.bipush 48, 2) := by decide +kernel
theorem dX12_init_28 : decode cX12_init 28 = .ok (.newarray .int, 2) := by decide +kernel
theorem dX12_init_30 : decode cX12_init 30 = .ok (.putfield 20, 3) := by decide +kernel
theorem dX12_init_33 : decode cX12_init 33 = .ok (.aload_n 0, 1) := by decide +kernel
theorem dX12_init_34 : decode cX12_init 34 = .ok (.iconst 4, 1) := by decide +kernel
theorem dX12_init_35 : decode cX12_init 35 = .ok (.newarray .int, 2) := by decide +kernel
theorem dX12_init_37 : decode cX12_init 37 = .ok (.putfield 23, 3) := by decide +kernel
theorem dX12_init_40 : decode cX12_init 40 = .ok (.aload_n 0, 1) := by decide +kernel
theorem dX12_init_41 : decode cX12_init 41 = .ok (.iconst 4, 1) := by decide +kernel
theorem dX12_init_42 : decode cX12_init 42 = .ok (.newarray .int, 2) := by decide +kernel
theorem dX12_init_44 : decode cX12_init 44 = .ok (.putfield 26, 3) := by decide +kernel
theorem dX12_init_47 : decode cX12_init 47 = .ok (.aload_n 0, 1) := by decide +kernel
theorem dX12_init_48 : decode cX12_init 48 = .ok (.sipush 1000, 3) := by decide +kernel
theorem dX12_init_51 : decode cX12_init 51 = .ok (.newarray .int, 2) := by decide +kernel
theorem dX12_init_53 : decode cX12_init 53 = .ok (.putfield 29, 3) := by decide +kernel
theorem dX12_init_56 : decode cX12_init 56 = .ok (.aload_n 0, 1) := by decide +kernel
theorem dX12_init_57 : decode cX12_init 57 = .ok (.sipush 1000, 3) := by decide +kernel
theorem dX12_init_60 : decode cX12_init 60 = .ok (.newarray .int, 2) := by decide +kernel
theorem dX12_init_62 : decode cX12_init 62 = .ok (.putfield 32, 3) := by decide +kernel
theorem dX12_init_65 : decode cX12_init 65 = .ok (.aload_n 0, 1) := by decide +kernel
theorem dX12_init_66 : decode cX12_init 66 = .ok (.sipush 1000, 3) := by decide +kernel
theorem dX12_init_69 : decode cX12_init 69 = .ok (.newarray .int, 2) := by decide +kernel
theorem dX12_init_71 : decode cX12_init 71 = .ok (.putfield 35, 3) := by decide +kernel
theorem dX12_init_74 : decode cX12_init 74 = .ok (.aload_n 0, 1) := by decide +kernel
theorem dX12_init_75 : decode cX12_init 75 = .ok (.sipush 1000, 3) := by decide +kernel
theorem dX12_init_78 : decode cX12_init 78 = .ok (.newarray .int, 2) := by decide +kernel
theorem dX12_init_80 : decode cX12_init 80 = .ok (.putfield 38, 3) := by decide +kernel
theorem dX12_init_83 : decode cX12_init 83 = .ok (.aload_n 0, 1) := by decide +kernel
theorem dX12_init_84 : decode cX12_init 84 = .ok (.sipush 1000, 3) := by decide +kernel
theorem dX12_init_87 : decode cX12_init 87 = .ok (.newarray .int, 2) := by decide +kernel
theorem dX12_init_89 : decode cX12_init 89 = .ok (.putfield 41, 3) := by decide +kernel
theorem dX12_init_92 : decode cX12_init 92 = .ok (.aload_n 0, 1) := by decide +kernel
theorem dX12_init_93 : decode cX12_init 93 = .ok (.sipush 1000, 3) := by decide +kernel
theorem dX12_init_96 : decode cX12_init 96 = .ok (.newarray .int, 2) := by decide +kernel
theorem dX12_init_98 : decode cX12_init 98 = .ok (.putfield 44, 3) := by decide +kernel
theorem dX12_init_101 : decode cX12_init 101 = .ok (.aload_n 0, 1) := by decide +kernel
theorem dX12_init_102 : decode cX12_init 102 = .ok (.sipush 1000, 3) := by decide +kernel
theorem dX12_init_105 : decode cX12_init 105 = .ok (.newarray .int, 2) := by decide +kernel
theorem dX12_init_107 : decode cX12_init 107 = .ok (.putfield 47, 3) := by decide +kernel
theorem dX12_init_110 : decode cX12_init 110 = .ok (.aload_n 0, 1) := by decide +kernel
theorem dX12_init_111 : decode cX12_init 111 = .ok (.sipush 4000, 3) := by decide +kernel
theorem dX12_init_114 : decode cX12_init 114 = .ok (.newarray .int, 2) := by decide +kernel
theorem dX12_init_116 : decode cX12_init 116 = .ok (.putfield 50, 3) := by decide +kernel
theorem dX12_init_119 : decode cX12_init 119 = .ok (.aload_n 0, 1) := by decide +kernel
theorem dX12_init_120 : decode cX12_init 120 = .ok (.iconst 4, 1) := by decide +kernel
theorem dX12_init_121 : decode cX12_init 121 = .ok (.newarray .int, 2) := by decide +kernel
theorem dX12_init_123 : decode cX12_init 123 = .ok (.putfield 53, 3) := by decide +kernel
theorem dX12_init_126 : decode cX12_init 126 = .ok (.aload_n 0, 1) := by decide +kernel
theorem dX12_init_127 : decode cX12_init 127 = .ok (.iconst 4, 1) := by decide +kernel
theorem dX12_init_128 : decode cX12_init 128 = .ok (.newarray .int, 2) := by decide +kernel
theorem dX12_init_130 : decode cX12_init 130 = .ok (.putfield 56, 3) := by decide +kernel
theorem dX12_init_133 : decode cX12_init 133 = .ok (.aload_n 0, 1) := by decide +kernel
theorem dX12_init_134 : decode cX12_init 134 = .ok (.iconst 4, 1) := by decide +kernel
theorem dX12_init_135 : decode cX12_init 135 = .ok (.newarray .int, 2) := by decide +kernel
theorem dX12_init_137 : decode cX12_init 137 = .ok (.putfield 59, 3) := by decide +kernel
theorem dX12_init_140 : decode cX12_init 140 = .ok (.aload_n 0, 1) := by decide +kernel
theorem dX12_init_141 : decode cX12_init 141 = .ok (.bipush 16, 2) := by decide +kernel
theorem dX12_init_143 : decode cX12_init 143 = .ok (.newarray .int, 2) := by decide +kernel
theorem dX12_init_145 : decode cX12_init 145 = .ok (.putfield 62, 3) := by decide +kernel
theorem dX12_init_148 : decode cX12_init 148 = .ok (.aload_n 0, 1) := by decide +kernel
theorem dX12_init_149 : decode cX12_init 149 = .ok (.bipush 64, 2) := by decide +kernel
theorem dX12_init_151 : decode cX12_init 151 = .ok (.newarray .int, 2) := by decide +kernel
theorem dX12_init_153 : decode cX12_init 153 = .ok (.putfield 65, 3) := by decide +kernel
theorem dX12_init_156 : decode cX12_init 156 = .ok (.aload_n 0, 1) := by decide +kernel
theorem dX12_init_157 : decode cX12_init 157 = .ok (.bipush 64, 2) := by decide +kernel
theorem dX12_init_159 : decode cX12_init 159 = .ok (.newarray .int, 2) := by decide +kernel
theorem dX12_init_161 : decode cX12_init 161 = .ok (.putfield 68, 3) := by decide +kernel
theorem dX12_init_164 : decode cX12_init 164 = .ok (.aload_n 0, 1) := by decide +kernel
theorem dX12_init_165 : decode cX12_init 165 = .ok (.iconst 4, 1) := by decide +kernel
theorem dX12_init_166 : decode cX12_init 166 = .ok (.newarray .int, 2) := by decide +kernel
theorem dX12_init_168 : decode cX12_init 168 = .ok (.putfield 71, 3) := by decide +kernel
theorem dX12_init_171 : decode cX12_init 171 = .ok (.aload_n 0, 1) := by decide +kernel
theorem dX12_init_172 : decode cX12_init 172 = .ok (.sipush 4000, 3) := by decide +kernel
theorem dX12_init_175 : decode cX12_init 175 = .ok (.newarray .int, 2) := by decide +kernel
theorem dX12_init_177 : decode cX12_init 177 = .ok (.putfield 74, 3) := by decide +kernel
theorem dX12_init_180 : decode cX12_init 180 = .ok (.aload_n 0, 1) := by decide +kernel
theorem dX12_init_181 : decode cX12_init 181 = .ok (.iconst 4, 1) := by decide +kernel
theorem dX12_init_182 : decode cX12_init 182 = .ok (.newarray .int, 2) := by decide +kernel
theorem dX12_init_184 : decode cX12_init 184 = .ok (.putfield 77, 3) := by decide +kernel
theorem dX12_init_187 : decode cX12_init 187 = .ok (.aload_n 0, 1) := by decide +kernel
theorem dX12_init_188 : decode cX12_init 188 = .ok (.bipush 120, 2) := by decide +kernel
theorem dX12_init_190 : decode cX12_init 190 = .ok (.newarray .int, 2) := by decide +kernel
theorem dX12_init_192 : decode cX12_init 192 = .ok (.putfield 80, 3) := by decide +kernel
theorem dX12_init_195 : decode cX12_init 195 = .ok (.aload_n 0, 1) := by decide +kernel
theorem dX12_init_196 : decode cX12_init 196 = .ok (.iconst 4, 1) := by decide +kernel
theorem dX12_init_197 : decode cX12_init 197 = .ok (.newarray .int, 2) := by decide +kernel
theorem dX12_init_199 : decode cX12_init 199 = .ok (.putfield 83, 3) := by decide +kernel
theorem dX12_init_202 : decode cX12_init 202 = .ok (.aload_n 0, 1) := by decide +kernel
theorem dX12_init_203 : decode cX12_init 203 = .ok (.sipush 1000, 3) := by decide +kernel
theorem dX12_init_206 : decode cX12_init 206 = .ok (.newarray .int, 2) := by decide +kernel
theorem dX12_init_208 : decode cX12_init 208 = .ok (.putfield 86, 3) := by decide +kernel
theorem dX12_init_211 : decode cX12_init 211 = .ok (.aload_n 0, 1) := by decide +kernel
theorem dX12_init_212 : decode cX12_init 212 = .ok (.sipush 1000, 3) := by decide +kernel
theorem dX12_init_215 : decode cX12_init 215 = .ok (.newarray .int, 2) := by decide +kernel
theorem dX12_init_217 : decode cX12_init 217 = .ok (.putfield 89, 3) := by decide +kernel
theorem dX12_init_220 : decode cX12_init 220 = .ok (.aload_n 0, 1) := by decide +kernel
theorem dX12_init_221 : decode cX12_init 221 = .ok (.sipush 1000, 3) := by decide +kernel
theorem dX12_init_224 : decode cX12_init 224 = .ok (.newarray .int, 2) := by decide +kernel
theorem dX12_init_226 : decode cX12_init 226 = .ok (.putfield 92, 3) := by decide +kernel
theorem dX12_init_229 : decode cX12_init 229 = .ok (.aload_n 0, 1) := by decide +kernel
theorem dX12_init_230 : decode cX12_init 230 = .ok (.bipush 64, 2) := by decide +kernel
theorem dX12_init_232 : decode cX12_init 232 = .ok (.newarray .int, 2) := by decide +kernel
theorem dX12_init_234 : decode cX12_init 234 = .ok (.putfield 95, 3) := by decide +kernel
theorem dX12_init_237 : decode cX12_init 237 = .ok (.aload_n 0, 1) := by decide +kernel
theorem dX12_init_238 : decode cX12_init 238 = .ok (.bipush 16, 2) := by decide +kernel
theorem dX12_init_240 : decode cX12_init 240 = .ok (.newarray .boolean, 2) := by decide +kernel
theorem dX12_init_242 : decode cX12_init 242 = .ok (.putfield 98, 3) := by decide +kernel
theorem dX12_init_245 : decode cX12_init 245 = .ok (.aload_n 0, 1) := by decide +kernel
theorem dX12_init_246 : decode cX12_init 246 = .ok (.bipush 16, 2) := by decide +kernel
theorem dX12_init_248 : decode cX12_init 248 = .ok (.newarray .int, 2) := by decide +kernel
theorem dX12_init_250 : decode cX12_init 250 = .ok (.putfield 102, 3) := by decide +kernel
theorem dX12_init_253 : decode cX12_init 253 = .ok (.aload_n 0, 1) := by decide +kernel
theorem dX12_init_254 : decode cX12_init 254 = .ok (.bipush 16, 2) := by decide +kernel
theorem dX12_init_256 : decode cX12_init 256 = .ok (.newarray .int, 2) := by decide +kernel
theorem dX12_init_258 : decode cX12_init 258 = .ok (.putfield 105, 3) := by decide +kernel
theorem dX12_init_261 : decode cX12_init 261 = .ok (.aload_n 0, 1) := by decide +kernel
theorem dX12_init_262 : decode cX12_init 262 = .ok (.bipush 16, 2) := by decide +kernel
theorem dX12_init_264 : decode cX12_init 264 = .ok (.newarray .int, 2) := by decide +kernel
theorem dX12_init_266 : decode cX12_init 266 = .ok (.putfield 108, 3) := by decide +kernel
theorem dX12_init_269 : decode cX12_init 269 = .ok (.aload_n 0, 1) := by decide +kernel
theorem dX12_init_270 : decode cX12_init 270 = .ok (.bipush 16, 2) := by decide +kernel
theorem dX12_init_272 : decode cX12_init 272 = .ok (.newarray .int, 2) := by decide +kernel
theorem dX12_init_274 : decode cX12_init 274 = .ok (.putfield 111, 3) := by decide +kernel
theorem dX12_init_277 : decode cX12_init 277 = .ok (.aload_n 0, 1) := by decide +kernel
theorem dX12_init_278 : decode cX12_init 278 = .ok (.iconst 4, 1) := by decide +kernel
theorem dX12_init_279 : decode cX12_init 279 = .ok (.newarray .int, 2) := by decide +kernel
theorem dX12_init_281 : decode cX12_init 281 = .ok (.putfield 114, 3) := by decide +kernel
theorem dX12_init_284 : decode cX12_init 284 = .ok (.aload_n 0, 1) := by decide +kernel
theorem dX12_init_285 : decode cX12_init 285 = .ok (.sipush 800, 3) := by decide +kernel
theorem dX12_init_288 : decode cX12_init 288 = .ok (.newarray .int, 2) := by decide +kernel
theorem dX12_init_290 : decode cX12_init 290 = .ok (.putfield 117, 3) := by decide +kernel
theorem dX12_init_293 : decode cX12_init 293 = .ok (.aload_n 0, 1) := by decide +kernel
theorem dX12_init_294 : decode cX12_init 294 = .ok (.sipush 800, 3) := by decide +kernel
theorem dX12_init_297 : decode cX12_init 297 = .ok (.newarray .int, 2) := by decide +kernel
theorem dX12_init_299 : decode cX12_init 299 = .ok (.putfield 120, 3) := by decide +kernel
theorem dX12_init_302 : decode cX12_init 302 = .ok (.aload_n 0, 1) := by decide +kernel
theorem dX12_init_303 : decode cX12_init 303 = .ok (.sipush 800, 3) := by decide +kernel
theorem dX12_init_306 : decode cX12_init 306 = .ok (.newarray .int, 2) := by decide +kernel
theorem dX12_init_308 : decode cX12_init 308 = .ok (.putfield 123, 3) := by decide +kernel
theorem dX12_init_311 : decode cX12_init 311 = .ok (.aload_n 0, 1) := by decide +kernel
theorem dX12_init_312 : decode cX12_init 312 = .ok (.sipush 800, 3) := by decide +kernel
theorem dX12_init_315 : decode cX12_init 315 = .ok (.newarray .int, 2) := by decide +kernel
theorem dX12_init_317 : decode cX12_init 317 = .ok (.putfield 126, 3) := by decide +kernel
theorem dX12_init_320 : decode cX12_init 320 = .ok (.aload_n 0, 1) := by decide +kernel
theorem dX12_init_321 : decode cX12_init 321 = .ok (.ldc 129, 2) := by decide +kernel
theorem dX12_init_323 : decode cX12_init 323 = .ok (.newarray .int, 2) := by decide +kernel
theorem dX12_init_325 : decode cX12_init 325 = .ok (.putfield 130, 3) := by decide +kernel
theorem dX12_init_328 : decode cX12_init 328 = .ok (.aload_n 0, 1) := by decide +kernel
theorem dX12_init_329 : decode cX12_init 329 = .ok (.sipush 1000, 3) := by decide +kernel
theorem dX12_init_332 : decode cX12_init 332 = .ok (.newarray .boolean, 2) := by decide +kernel
theorem dX12_init_334 : decode cX12_init 334 = .ok (.putfield 133, 3) := by decide +kernel
theorem dX12_init_337 : decode cX12_init 337 = .ok (.aload_n 0, 1) := by decide +kernel
theorem dX12_init_338 : decode cX12_init 338 = .ok (.sipush 1000, 3) := by decide +kernel
theorem dX12_init_341 : decode cX12_init 341 = .ok (.newarray .int, 2) := by decide +kernel
theorem dX12_init_343 : decode cX12_init 343 = .ok (.putfield 136, 3) := by decide +kernel
theorem dX12_init_346 : decode cX12_init 346 = .ok (.aload_n 0, 1) := by decide +kernel
theorem dX12_init_347 : decode cX12_init 347 = .ok (.sipush 1000, 3) := by decide +kernel
theorem dX12_init_350 : decode cX12_init 350 = .ok (.newarray .int, 2) := by decide +kernel
theorem dX12_init_352 : decode cX12_init 352 = .ok (.putfield 139, 3) := by decide +kernel
theorem dX12_init_355 : decode cX12_init 355 = .ok (.aload_n 0, 1) := by decide +kernel
theorem dX12_init_356 : decode cX12_init 356 = .ok (.sipush 1000, 3) := by decide +kernel
theorem dX12_init_359 : decode cX12_init 359 = .ok (.newarray .int, 2) := by decide +kernel
theorem dX12_init_361 : decode cX12_init 361 = .ok (.putfield 142, 3) := by decide +kernel
theorem dX12_init_364 : decode cX12_init 364 = .ok (.aload_n 0, 1) := by decide +kernel
theorem dX12_init_365 : decode cX12_init 365 = .ok (.sipush 1000, 3) := by decide +kernel
theorem dX12_init_368 : decode cX12_init 368 = .ok (.newarray .int, 2) := by decide +kernel
theorem dX12_init_370 : decode cX12_init 370 = .ok (.putfield 145, 3) := by decide +kernel
theorem dX12_init_373 : decode cX12_init 373 = .ok (.aload_n 0, 1) := by decide +kernel
theorem dX12_init_374 : decode cX12_init 374 = .ok (.bipush 48, 2) := by decide +kernel
theorem dX12_init_376 : decode cX12_init 376 = .ok (.newarray .int, 2) := by decide +kernel
theorem dX12_init_378 : decode cX12_init 378 = .ok (.putfield 148, 3) := by decide +kernel
theorem dX12_init_381 : decode cX12_init 381 = .ok (.aload_n 0, 1) := by decide +kernel
theorem dX12_init_382 : decode cX12_init 382 = .ok (.bipush 48, 2) := by decide +kernel
theorem dX12_init_384 : decode cX12_init 384 = .ok (.newarray .int, 2) := by decide +kernel
theorem dX12_init_386 : decode cX12_init 386 = .ok (.putfield 151, 3) := by decide +kernel
theorem dX12_init_389 : decode cX12_init 389 = .ok (.aload_n 0, 1) := by decide +kernel
theorem dX12_init_390 : decode cX12_init 390 = .ok (.sipush 1000, 3) := by decide +kernel
theorem dX12_init_393 : decode cX12_init 393 = .ok (.newarray .int, 2) := by decide +kernel
theorem dX12_init_395 : decode cX12_init 395 = .ok (.putfield 154, 3) := by decide +kernel
theorem dX12_init_398 : decode cX12_init 398 = .ok (.aload_n 0, 1) := by decide +kernel
theorem dX12_init_399 : decode cX12_init 399 = .ok (.sipush 1000, 3) := by decide +kernel
theorem dX12_init_402 : decode cX12_init 402 = .ok (.newarray .int, 2) := by decide +kernel
theorem dX12_init_404 : decode cX12_init 404 = .ok (.putfield 157, 3) := by decide +kernel
theorem dX12_init_407 : decode cX12_init 407 = .ok (.aload_n 0, 1) := by decide +kernel
theorem dX12_init_408 : decode cX12_init 408 = .ok (.sipush 1000, 3) := by decide +kernel
theorem dX12_init_411 : decode cX12_init 411 = .ok (.newarray .int, 2) := by decide +kernel
theorem dX12_init_413 : decode cX12_init 413 = .ok (.putfield 160, 3) := by decide +kernel
theorem dX12_init_416 : decode cX12_init 416 = .ok (.aload_n 0, 1) := by decide +kernel
theorem dX12_init_417 : decode cX12_init 417 = .ok (.sipush 1000, 3) := by decide +kernel
theorem dX12_init_420 : decode cX12_init 420 = .ok (.newarray .int, 2) := by decide +kernel
theorem dX12_init_422 : decode cX12_init 422 = .ok (.putfield 163, 3) := by decide +kernel
theorem dX12_init_425 : decode cX12_init 425 = .ok (.aload_n 0, 1) := by decide +kernel
theorem dX12_init_426 : decode cX12_init 426 = .ok (.bipush 48, 2) := by decide +kernel
theorem dX12_init_428 : decode cX12_init 428 = .ok (.newarray .int, 2) := by decide +kernel
theorem dX12_init_430 : decode cX12_init 430 = .ok (.putfield 166, 3) := by decide +kernel
theorem dX12_init_433 : decode cX12_init 433 = .ok (.aload_n 0, 1) := by decide +kernel
theorem dX12_init_434 : decode cX12_init 434 = .ok (.sipush 192, 3) := by decide +kernel
theorem dX12_init_437 : decode cX12_init 437 = .ok (.newarray .int, 2) := by decide +kernel
theorem dX12_init_439 : decode cX12_init 439 = .ok (.putfield 169, 3) := by decide +kernel
theorem dX12_init_442 : decode cX12_init 442 = .ok (.aload_n 0, 1) := by decide +kernel
theorem dX12_init_443 : decode cX12_init 443 = .ok (.iconst 4, 1) := by decide +kernel
theorem dX12_init_444 : decode cX12_init 444 = .ok (.newarray .int, 2) := by decide +kernel
theorem dX12_init_446 : decode cX12_init 446 = .ok (.putfield 172, 3) := by decide +kernel
theorem dX12_init_449 : decode cX12_init 449 = .ok (.aload_n 0, 1) := by decide +kernel
theorem dX12_init_450 : decode cX12_init 450 = .ok (.bipush 48, 2) := by decide +kernel
theorem dX12_init_452 : decode cX12_init 452 = .ok (.newarray .int, 2) := by decide +kernel
theorem dX12_init_454 : decode cX12_init 454 = .ok (.putfield 175, 3) := by decide +kernel
theorem dX12_init_457 : decode cX12_init 457 = .ok (.aload_n 0, 1) := by decide +kernel
theorem dX12_init_458 : decode cX12_init 458 = .ok (.ldc 178, 2) := by decide +kernel
theorem dX12_init_460 : decode cX12_init 460 = .ok (.newarray .int, 2) := by decide +kernel
theorem dX12_init_462 : decode cX12_init 462 = .ok (.putfield 179, 3) := by decide +kernel
theorem dX12_init_465 : decode cX12_init 465 = .ok (.aload_n 0, 1) := by decide +kernel
theorem dX12_init_466 : decode cX12_init 466 = .ok (.sipush 1000, 3) := by decide +kernel
theorem dX12_init_469 : decode cX12_init 469 = .ok (.newarray .int, 2) := by decide +kernel
theorem dX12_init_471 : decode cX12_init 471 = .ok (.putfield 182, 3) := by decide +kernel
theorem dX12_init_474 : decode cX12_init 474 = .ok (.aload_n 0, 1) := by decide +kernel
theorem dX12_init_475 : decode cX12_init 475 = .ok (.sipush 1000, 3) := by decide +kernel
theorem dX12_init_478 : decode cX12_init 478 = .ok (.newarray .int, 2) := by decide +kernel
theorem dX12_init_480 : decode cX12_init 480 = .ok (.putfield 185, 3) := by decide +kernel
theorem dX12_init_483 : decode cX12_init 483 = .ok (.aload_n 0, 1) := by decide +kernel
theorem dX12_init_484 : decode cX12_init 484 = .ok (.sipush 640, 3) := by decide +kernel
theorem dX12_init_487 : decode cX12_init 487 = .ok (.newarray .int, 2) := by decide +kernel
theorem dX12_init_489 : decode cX12_init 489 = .ok (.putfield 188, 3) := by decide +kernel
theorem dX12_init_492 : decode cX12_init 492 = .ok (.aload_n 0, 1) := by decide +kernel
theorem dX12_init_493 : decode cX12_init 493 = .ok (.sipush 640, 3) := by decide +kernel
theorem dX12_init_496 : decode cX12_init 496 = .ok (.newarray .int, 2) := by decide +kernel
theorem dX12_init_498 : decode cX12_init 498 = .ok (.putfield 191, 3) := by decide +kernel
theorem dX12_init_501 : decode cX12_init 501 = .ok (.aload_n 0, 1) := by decide +kernel
theorem dX12_init_502 : decode cX12_init 502 = .ok (.bipush 48, 2) := by decide +kernel
theorem dX12_init_504 : decode cX12_init 504 = .ok (.newarray .int, 2) := by decide +kernel
theorem dX12_init_506 : decode cX12_init 506 = .ok (.putfield 194, 3) := by decide +kernel
theorem dX12_init_509 : decode cX12_init 509 = .ok (.aload_n 0, 1) := by decide +kernel
theorem dX12_init_510 : decode cX12_init 510 = .ok (.bipush 48, 2) := by decide +kernel
theorem dX12_init_512 : decode cX12_init 512 = .ok (.newarray .int, 2) := by decide +kernel
theorem dX12_init_514 : decode cX12_init 514 = .ok (.putfield 197, 3) := by decide +kernel
theorem dX12_init_517 : decode cX12_init 517 = .ok (.return_, 1) := by decide +kernel
/-- which one of the arrays a field's is, in the order of their making -/
def mRk : Nat → Nat := fun k => match k with
  | 2 => 0
  | 5 => 1
  | 6 => 2
  | 7 => 3
  | 8 => 4
  | 9 => 5
  | 10 => 6
  | 11 => 7
  | 12 => 8
  | 13 => 9
  | 14 => 10
  | 15 => 11
  | 16 => 12
  | 17 => 13
  | 18 => 14
  | 19 => 15
  | 20 => 16
  | 21 => 17
  | 22 => 18
  | 23 => 19
  | 24 => 20
  | 25 => 21
  | 26 => 22
  | 27 => 23
  | 28 => 24
  | 29 => 25
  | 30 => 26
  | 31 => 27
  | 32 => 28
  | 33 => 29
  | 34 => 30
  | 35 => 31
  | 36 => 32
  | 37 => 33
  | 38 => 34
  | 39 => 35
  | 40 => 36
  | 41 => 37
  | 46 => 38
  | 47 => 39
  | 48 => 40
  | 50 => 41
  | 51 => 42
  | 53 => 43
  | 55 => 44
  | 56 => 45
  | 58 => 46
  | 60 => 47
  | 62 => 48
  | 63 => 49
  | 64 => 50
  | 65 => 51
  | 66 => 52
  | 68 => 53
  | 71 => 54
  | 72 => 55
  | 73 => 56
  | 75 => 57
  | 76 => 58
  | 78 => 59
  | 79 => 60
  | _ => 61
theorem mt_decl : ∀ k, k < 80 → (TX12 k).1 = RX12 := by decide +kernel
theorem mt_len : ∀ k, 80 ≤ k → mLen k = 0 := by
  intro k hk
  match k, hk with
  | 0, h => exact absurd h (by decide)
  | 1, h => exact absurd h (by decide)
  | 2, h => exact absurd h (by decide)
  | 3, h => exact absurd h (by decide)
  | 4, h => exact absurd h (by decide)
  | 5, h => exact absurd h (by decide)
  | 6, h => exact absurd h (by decide)
  | 7, h => exact absurd h (by decide)
  | 8, h => exact absurd h (by decide)
  | 9, h => exact absurd h (by decide)
  | 10, h => exact absurd h (by decide)
  | 11, h => exact absurd h (by decide)
  | 12, h => exact absurd h (by decide)
  | 13, h => exact absurd h (by decide)
  | 14, h => exact absurd h (by decide)
  | 15, h => exact absurd h (by decide)
  | 16, h => exact absurd h (by decide)
  | 17, h => exact absurd h (by decide)
  | 18, h => exact absurd h (by decide)
  | 19, h => exact absurd h (by decide)
  | 20, h => exact absurd h (by decide)
  | 21, h => exact absurd h (by decide)
  | 22, h => exact absurd h (by decide)
  | 23, h => exact absurd h (by decide)
  | 24, h => exact absurd h (by decide)
  | 25, h => exact absurd h (by decide)
  | 26, h => exact absurd h (by decide)
  | 27, h => exact absurd h (by decide)
  | 28, h => exact absurd h (by decide)
  | 29, h => exact absurd h (by decide)
  | 30, h => exact absurd h (by decide)
  | 31, h => exact absurd h (by decide)
  | 32, h => exact absurd h (by decide)
  | 33, h => exact absurd h (by decide)
  | 34, h => exact absurd h (by decide)
  | 35, h => exact absurd h (by decide)
  | 36, h => exact absurd h (by decide)
  | 37, h => exact absurd h (by decide)
  | 38, h => exact absurd h (by decide)
  | 39, h => exact absurd h (by decide)
  | 40, h => exact absurd h (by decide)
  | 41, h => exact absurd h (by decide)
  | 42, h => exact absurd h (by decide)
  | 43, h => exact absurd h (by decide)
  | 44, h => exact absurd h (by decide)
  | 45, h => exact absurd h (by decide)
  | 46, h => exact absurd h (by decide)
  | 47, h => exact absurd h (by decide)
  | 48, h => exact absurd h (by decide)
  | 49, h => exact absurd h (by decide)
  | 50, h => exact absurd h (by decide)
  | 51, h => exact absurd h (by decide)
  | 52, h => exact absurd h (by decide)
  | 53, h => exact absurd h (by decide)
  | 54, h => exact absurd h (by decide)
  | 55, h => exact absurd h (by decide)
  | 56, h => exact absurd h (by decide)
  | 57, h => exact absurd h (by decide)
  | 58, h => exact absurd h (by decide)
  | 59, h => exact absurd h (by decide)
  | 60, h => exact absurd h (by decide)
  | 61, h => exact absurd h (by decide)
  | 62, h => exact absurd h (by decide)
  | 63, h => exact absurd h (by decide)
  | 64, h => exact absurd h (by decide)
  | 65, h => exact absurd h (by decide)
  | 66, h => exact absurd h (by decide)
  | 67, h => exact absurd h (by decide)
  | 68, h => exact absurd h (by decide)
  | 69, h => exact absurd h (by decide)
  | 70, h => exact absurd h (by decide)
  | 71, h => exact absurd h (by decide)
  | 72, h => exact absurd h (by decide)
  | 73, h => exact absurd h (by decide)
  | 74, h => exact absurd h (by decide)
  | 75, h => exact absurd h (by decide)
  | 76, h => exact absurd h (by decide)
  | 77, h => exact absurd h (by decide)
  | 78, h => exact absurd h (by decide)
  | 79, h => exact absurd h (by decide)
  | k + 80, _ => rfl
theorem mt_rk : ∀ k, k < 80 → mLen k ≠ 0 → mRk k < 61 := by decide +kernel
theorem mt_inj : ∀ k', k' < 80 → ∀ k, k < 80 → mLen k' ≠ 0 → mLen k ≠ 0 → mRk k' = mRk k → k' = k := by decide +kernel
def iV (z0 : Nat) (i : Nat → Int32) (j k : Nat) : Value := if mLen k = 0 then .int (i k) else if mRk k < j then .ref (z0 + mRk k) else .null
/-- the reference in the making: j arrays stand -/
def iW (cM : ClassId) (iS : Nat → Nat) (cI cZ : ClassId) (mo z0 : Nat) (i : Nat → Int32) (j : Nat) (H : Heap) : Prop :=
  t_OB mo cM 80 iS H (iV z0 i j) ∧ (∀ k, mLen k ≠ 0 → mRk k < j → H[z0 + mRk k]? = some (arrV (mCl cI cZ k) (mLen k) (fun _ => .int 0))) ∧ H.size = z0 + j
def iF (mo z0 : Nat) (H0 H : Heap) (locs : List Loc) : Prop := (∀ q : Nat, q < z0 → q ≠ mo → H[q]? = H0[q]?) ∧ ∀ l ∈ locs, l.base = mo ∨ z0 ≤ l.base
def mK2 (cI cZ : ClassId) (U : State) : Prop := U.vm.findClass ("[" ++ FieldType.int.toString) = some cI ∧ U.vm.findClass ("[" ++ FieldType.boolean.toString) = some cZ
theorem mK2.moved {cI cZ : ClassId} {u U : State} (hvm : u.vm.Alike U.vm) (h : mK2 cI cZ u) : mK2 cI cZ U := ⟨by rw [hvm.findClass]; exact h.1, by rw [hvm.findClass]; exact h.2⟩
section MI
variable {p : Program} {l : Launch} {e : Env} {R : Room} {s : State} {m : MethodId} {args : Array Value} {below : List Frame} {meth : Method} {c : Code} {H : Heap} {locs : List Loc} {cells slots : Nat} {Q : State → Prop}
variable {cM : ClassId} {iS : Nat → Nat} {cI cZ : ClassId} {mo z0 j : Nat} {i : Nat → Int32} {cc : ByteArray} {nL : Nat} {pc : Nat} {ls : Array Slot} {rest : List Value} {H0 : Heap} {nF nR : Nat} {ret : Option FieldType}
theorem mi_ap (hts : ∀ w ∈ lw_g, w.before args s = true) (hK : u_Kn s RX12 TX12 80 cM iS) : ∀ x y, x < 80 → y < 80 → x ≠ y → iS x ≠ iS y := by
  obtain ⟨hS, -⟩ := hK
  intro x y hx hy hne
  obtain ⟨_, _, _, fa, hia, ea⟩ := hS x hx
  obtain ⟨_, _, _, fb, hib, eb⟩ := hS y hy
  rw [← ea, ← eb]
  refine u_apart (u_lays hts mt_lays hx) (u_lays hts mt_lays hy) hia hib ?_
  rw [(State.fieldFound?_type hia (tyX12_ok x hx)).1, (State.fieldFound?_type hib (tyX12_ok y hy)).1]
  exact nmX12 x hx y hy hne
theorem mi_int (C : mY p R s m args meth c cc nL nF nR ret) (hK : mK cM iS cI cZ s) (hmo : mo < z0) (hW : iW cM iS cI cZ mo z0 i j H) (hF : iF mo z0 H0 H locs) (k : Nat) (hk : k < 80) (hz : mLen k = 0) (hfin : (TX12 k).2.2.2 = false) (hty : parseFieldDescriptor (TX12 k).2.2.1 = some .int) {x : Int32} {index : Nat} (hl : Cond.fieldLink RX12 index (TX12 k).1 (TX12 k).2.1 (TX12 k).2.2.1 ∈ lw_g) (hdg : decode cc pc = .ok (.putfield index, 3))
    (kk : ∀ (H1 : Heap) (locs1 : List Loc), iW cM iS cI cZ mo z0 (upd i k x) j H1 → iF mo z0 H0 H1 locs1 → W p l e R s m args below meth c H1 locs1 cells slots Q (F0 m (pc + 3) ls rest)) : W p l e R s m args below meth c H locs cells slots Q (F0 m pc ls (.int x :: .ref mo :: rest)) := by
  obtain ⟨hx, hb, -, hown, hts, -⟩ := C
  have hap := mi_ap hts hK.1
  obtain ⟨⟨hS, hfc, kC, hkC, hkind⟩, -⟩ := hK
  obtain ⟨⟨cell, q1, q2, q3, q4⟩, w2, w3⟩ := hW
  obtain ⟨cf, kf, fi, f, hi, hsl⟩ := hS k hk
  have hlay := hts _ (mt_lays _ (u_in_lay hk))
  unfold u_lay at hlay
  rw [if_neg (by rw [hfin]; decide)] at hlay
  have hst := (u_facts hfc hkC (u_lays hts mt_lays hk) hi).1
  have h6 := u_store (v := .int x) hfc hkC hkind hlay hi hty rfl rfl
  refine W.putK hx hb (f := f) ⟨hown, hts _ hl, ⟨_, _, _, hi⟩, hst⟩ (by rw [q2]; exact h6) q1 q3 (by rw [hsl]; exact k2_hasslot (q4 k hk)) rfl rfl hdg fun H' e1 e2 e3 => ?_
  rw [hsl] at e1 ⊢
  refine kk H' _ ⟨t_OB.to (V := updV (iV z0 i j) k (.int x)) ⟨_, e1, q2, q3, t_set q4 hap hk _⟩ (fun j' _ => ?_), fun k' h1 h2 => ?_, e2.trans w3⟩ ⟨fun q h1 h2 => (e3 q h2).trans (hF.1 q h1 h2), fun q hq => ?_⟩
  · unfold updV iV upd
    by_cases hjk : j' = k
    · subst hjk; simp [hz]
    · simp [hjk]
  · rw [e3 (z0 + mRk k') (Nat.ne_of_gt (show mo < z0 + mRk k' by omega))]; exact w2 k' h1 h2
  · rcases List.mem_append.mp hq with h | h
    · exact hF.2 q h
    · rw [List.mem_singleton.mp h]; exact Or.inl rfl
theorem mi_arr (C : mY p R s m args meth c cc nL nF nR ret) (hin : meth.name = "<init>") (hK : mK cM iS cI cZ s) (hmo : mo < z0) (hW : iW cM iS cI cZ mo z0 i j H) (hF : iF mo z0 H0 H locs) (k N : Nat) (hk : k < 80) (hz : mLen k = N) (hN : N ≠ 0) (hr : mRk k = j) (hinj : ∀ k', k' < 80 → mLen k' ≠ 0 → mRk k' = j → k' = k) (hfin : (TX12 k).2.2.2 = true) {ty : FieldType} (hty : tyX12 k = .array ty) {atype : ArrayType} (hat : newarray.typeOf atype = ty) (hcl : s.vm.findClass ("[" ++ ty.toString) = some (mCl cI cZ k)) (hdv : defaultValue ty = .int 0) (harr : Cond.arrayClass ty ∈ lw_g)
    {n : Int32} (hn : ¬ n < 0) (hnN : n.toNatClampNeg = N) (hby : N * componentBytes ty ≤ 536870912) (hce : cells + 1 ≤ R.cells) (hsl : slots + N ≤ R.slots) (d1 : decode cc pc = .ok (.newarray atype, 2)) {index : Nat} (hl : Cond.fieldLink RX12 index (TX12 k).1 (TX12 k).2.1 (TX12 k).2.2.1 ∈ lw_g) (d2 : decode cc (pc + 2) = .ok (.putfield index, 3))
    (kk : ∀ (H1 : Heap) (locs1 : List Loc), iW cM iS cI cZ mo z0 i (j + 1) H1 → iF mo z0 H0 H1 locs1 → W p l e R s m args below meth c H1 locs1 (cells + 1) (slots + N) Q (F0 m (pc + 5) ls rest)) : W p l e R s m args below meth c H locs cells slots Q (F0 m pc ls (.int n :: .ref mo :: rest)) := by
  obtain ⟨hx, hb, -, hown, hts, -⟩ := C
  have hap := mi_ap hts hK.1
  obtain ⟨⟨hS, hfc, kC, hkC, hkind⟩, -⟩ := hK
  obtain ⟨w1, w2, w3⟩ := hW
  subst hat
  refine va_newaK hx hb (hts _ harr) rfl d1 rfl hn hnN hby hce hsl w3 fun H1 cA' a1 z1 o1 ha hf => ?_
  have hcA : cA' = mCl cI cZ k := Option.some.inj (hf.symm.trans hcl)
  subst hcA
  obtain ⟨cell, q1, q2, q3, q4⟩ := w1.kept (o1 mo (by omega))
  obtain ⟨cf, kf, fi, f, hi, hslt⟩ := hS k hk
  have hlay := hts _ (mt_lays _ (u_in_lay hk))
  unfold u_lay at hlay
  rw [if_pos hfin] at hlay
  have hst := (u_facts hfc hkC (u_lays hts mt_lays hk) hi).1
  have hcf : m.cls = cf := by
    obtain ⟨_, _, c', _, _, _, -, -, hf', -, -, -, hown2, -⟩ := Cond.laysFinal_spec hlay
    have e1 : c' = cf := by have := hi.symm.trans hf'; simp at this; exact this.1.symm
    have hd : (TX12 k).1 = RX12 := mt_decl k hk
    rw [hd] at hown2
    rw [← e1]; exact Option.some.inj (hown.symm.trans hown2)
  have h6 := u_fits (v := .ref (z0 + j)) hfc hkC hkind (Or.inr hlay) hi (tyX12_ok k hk) (by rw [hty]; rfl) (by rw [hty]; rfl)
  refine W.eq (g2 := F0 m (pc + 2) ls (.ref (z0 + j) :: .ref mo :: rest)) rfl ?_
  refine W.putFinK hx hb hown (hts _ hl) hi hst hcf hin (by rw [q2]; exact h6) q1 q3 (by rw [hslt]; exact k2_hasslot (q4 k hk)) rfl rfl d2 fun H' e1 e2 e3 => ?_
  rw [hslt] at e1 ⊢
  refine kk H' _ ⟨t_OB.to (V := updV (iV z0 i j) k (.ref (z0 + j))) ⟨_, e1, q2, q3, t_set q4 hap hk _⟩ (fun j' hj' => ?_), fun k' h1 h2 => ?_, by rw [e2, z1]; omega⟩ ⟨fun q h1 h2 => by rw [e3 q h2, o1 q (by omega)]; exact hF.1 q h1 h2, fun q hq => ?_⟩
  · unfold updV iV
    by_cases hjk : j' = k
    · subst hjk; simp [hr, show ¬ mLen j' = 0 by omega]
    · by_cases hm : mLen j' = 0
      · simp [hjk, hm]
      · have : mRk j' ≠ j := fun q => hjk (hinj j' hj' hm q)
        have e : (mRk j' < j + 1) = (mRk j' < j) := by apply propext; omega
        simp [hjk, hm, e]
  · rw [e3 (z0 + mRk k') (Nat.ne_of_gt (show mo < z0 + mRk k' by omega))]
    by_cases hlt : mRk k' < j
    · rw [o1 (z0 + mRk k') (by omega)]; exact w2 k' h1 hlt
    · have hk8 : k' < 80 := by
        by_cases q : k' < 80
        · exact q
        · exact absurd (mt_len k' (by omega)) h1
      have hk' : k' = k := hinj k' hk8 h1 (by omega)
      subst hk'
      rw [hr, a1, hdv, hz]
  · rcases List.mem_append.mp hq with h | h
    · exact hF.2 q h
    · rw [List.mem_singleton.mp h]; exact Or.inl rfl
end MI
/-- the reference's first state -/
def mS0 : mSt := (upd (fun _ => 0) 3 (-1), fun _ _ => 0)
theorem cd_init : Cond.code yX12_init cX12_init 1 none ∈ lw_g := mt_at 1690 (by decide +kernel) rfl
theorem io_l : Cond.methodLink RX12 1 objectInit ∈ lw_g := mt_at 1691 (by decide +kernel) rfl
theorem io_i : Cond.instanceMethod objectInit ∈ lw_g := mt_at 38 (by decide +kernel) rfl
theorem io_c : Cond.code objectInit ⟨#[0xb1]⟩ 1 none ∈ lw_g := mt_at 39 (by decide +kernel) rfl
theorem ia_int : Cond.arrayClass .int ∈ lw_g := mt_at 70 (by decide +kernel) rfl
theorem ia_boolean : Cond.arrayClass .boolean ∈ lw_g := mt_at 1935 (by decide +kernel) rfl
set_option maxRecDepth 100000 in
set_option maxHeartbeats 8000000 in
theorem tm_init (l : Launch) {cM : ClassId} {iS : Nat → Nat} {cI cZ : ClassId} {mo z0 : Nat} : Met l yX12_init (Cond.code yX12_init cX12_init 1 none :: lw_g) { frames := 1, cells := 61, slots := 113945, locals := 12 } (fun v U => v = #[Value.ref mo] ∧ U.heap.size = z0 ∧ mo < z0 ∧ t_OB mo cM 80 iS U.heap (iV z0 (fun _ => 0) 0) ∧ mK cM iS cI cZ U ∧ mK2 cI cZ U) (fun _ st o t => o = .returned none ∧ mW cM iS cI cZ mo (fun k => z0 + mRk k) mS0 t.heap ∧ t.heap.size = z0 + 61 ∧ ∀ q : Nat, q < z0 → q ≠ mo → t.heap[q]? = st.heap[q]?) 61 113945 (fun q => q = mo ∨ z0 ≤ q) := by
  refine Met.ofW (cc := cX12_init) (maxL := 1) (ret := none) (by decide) rfl ?_
  intro p e s m args below meth c s₁ B hml hv
  obtain ⟨rfl, hsz, hmo, hob, hK, hK2⟩ := hv
  have C : mY p (headSpec (Cond.code yX12_init cX12_init 1 none :: lw_g) { frames := 1, cells := 61, slots := 113945, locals := 12 }).room s m _ meth c cX12_init 1 1 12 none := ⟨B.exec, B.bytes, hml, findClass_of_methodNamed B.named, fun w hw => atoms_spec (ws := Cond.code yX12_init cX12_init 1 none :: lw_g) B.pre w (List.mem_cons_of_mem _ hw), ⟨Nat.le_refl _, Nat.le_refl _⟩, B.returns, B.notSynchronized⟩
  have hlocks := B.notSynchronized
  have hin : meth.name = "<init>" := (name_of_methodNamed B.named B.method).1
  have hW : iW cM iS cI cZ mo z0 (fun _ => 0) 0 s.heap := ⟨hob, fun k _ h => absurd h (Nat.not_lt_zero _), hsz⟩
  have hF : iF mo z0 s.heap s.heap [] := ⟨fun _ _ _ => rfl, fun _ h => by cases h⟩
  have hl := lv_entry ([.ref mo]) (n := 1) (Nat.le_of_ble_eq_true rfl)
  rw [show (#[Value.ref mo] : Array Value) = ([Value.ref mo] : List Value).toArray from rfl, lg_entry_eq]
  generalize (lg_sl ([.ref mo]) ++ List.replicate (1 - (lg_sl ([.ref mo])).length) Slot.unset).toArray = ls at hl ⊢
  have hl : lv_has ls 1 [(0, .ref mo)] := hl
  refine lv_aload_n C.1 C.2.1 dX12_init_0 rfl (lv_at hl 0 rfl) ?_
  refine W.objInit C.1 C.2.1 C.2.2.2.1 (C.2.2.2.2.1 _ io_l) (C.2.2.2.2.1 _ io_i) (C.2.2.2.2.1 _ io_c) rfl (by rw [hml]; exact hl.1) rfl dX12_init_1 (Nat.le_of_ble_eq_true rfl) (Nat.le_of_ble_eq_true rfl) ?_
  refine W.eq (g2 := F0 m 4 ls []) rfl ?_
  refine lv_aload_n C.1 C.2.1 dX12_init_4 rfl (lv_at hl 0 rfl) ?_
  refine lv_bipush (v := 40) C.1 C.2.1 dX12_init_5 (by decide) ?_
  refine mi_arr C hin hK hmo hW hF 2 40 (by decide) (by decide +kernel) (by decide) (by decide +kernel) (fun k' h1 h2 h3 => mt_inj k' h1 2 (by decide) h2 (by decide +kernel) (h3.trans (show 0 = mRk 2 by decide +kernel))) (by decide +kernel) (ty := .int) rfl rfl (by rw [show mCl cI cZ 2 = cI from by unfold mCl; rfl]; exact hK2.1) rfl ia_int (by decide) (by decide) (by decide) (by show 0 + 1 ≤ 61; decide) (by show 0 + 40 ≤ 113945; decide) dX12_init_7 fl_2 dX12_init_9 (fun H locs hW hF => ?_)
  refine W.cs (cells' := 1) (slots' := 40) rfl rfl ?_
  refine lv_aload_n C.1 C.2.1 dX12_init_12 rfl (lv_at hl 0 rfl) ?_
  refine lv_iconst (v := -1) C.1 C.2.1 dX12_init_13 (by decide) ?_
  refine mi_int C hK hmo hW hF 3 (by decide) (by decide +kernel) (by decide +kernel) (by decide +kernel) fl_3 dX12_init_14 (fun H locs hW hF => ?_)
  refine lv_aload_n C.1 C.2.1 dX12_init_17 rfl (lv_at hl 0 rfl) ?_
  refine lv_bipush (v := 8) C.1 C.2.1 dX12_init_18 (by decide) ?_
  refine mi_arr C hin hK hmo hW hF 5 8 (by decide) (by decide +kernel) (by decide) (by decide +kernel) (fun k' h1 h2 h3 => mt_inj k' h1 5 (by decide) h2 (by decide +kernel) (h3.trans (show 1 = mRk 5 by decide +kernel))) (by decide +kernel) (ty := .int) rfl rfl (by rw [show mCl cI cZ 5 = cI from by unfold mCl; rfl]; exact hK2.1) rfl ia_int (by decide) (by decide) (by decide) (by show 1 + 1 ≤ 61; decide) (by show 40 + 8 ≤ 113945; decide) dX12_init_20 fl_5 dX12_init_22 (fun H locs hW hF => ?_)
  refine W.cs (cells' := 2) (slots' := 48) rfl rfl ?_
  refine lv_aload_n C.1 C.2.1 dX12_init_25 rfl (lv_at hl 0 rfl) ?_
  refine lv_bipush (v := 48) C.1 C.2.1 dX12_init_26 (by decide) ?_
  refine mi_arr C hin hK hmo hW hF 6 48 (by decide) (by decide +kernel) (by decide) (by decide +kernel) (fun k' h1 h2 h3 => mt_inj k' h1 6 (by decide) h2 (by decide +kernel) (h3.trans (show 2 = mRk 6 by decide +kernel))) (by decide +kernel) (ty := .int) rfl rfl (by rw [show mCl cI cZ 6 = cI from by unfold mCl; rfl]; exact hK2.1) rfl ia_int (by decide) (by decide) (by decide) (by show 2 + 1 ≤ 61; decide) (by show 48 + 48 ≤ 113945; decide) dX12_init_28 fl_6 dX12_init_30 (fun H locs hW hF => ?_)
  refine W.cs (cells' := 3) (slots' := 96) rfl rfl ?_
  refine lv_aload_n C.1 C.2.1 dX12_init_33 rfl (lv_at hl 0 rfl) ?_
  refine lv_iconst (v := 4) C.1 C.2.1 dX12_init_34 (by decide) ?_
  refine mi_arr C hin hK hmo hW hF 7 4 (by decide) (by decide +kernel) (by decide) (by decide +kernel) (fun k' h1 h2 h3 => mt_inj k' h1 7 (by decide) h2 (by decide +kernel) (h3.trans (show 3 = mRk 7 by decide +kernel))) (by decide +kernel) (ty := .int) rfl rfl (by rw [show mCl cI cZ 7 = cI from by unfold mCl; rfl]; exact hK2.1) rfl ia_int (by decide) (by decide) (by decide) (by show 3 + 1 ≤ 61; decide) (by show 96 + 4 ≤ 113945; decide) dX12_init_35 fl_7 dX12_init_37 (fun H locs hW hF => ?_)
  refine W.cs (cells' := 4) (slots' := 100) rfl rfl ?_
  refine lv_aload_n C.1 C.2.1 dX12_init_40 rfl (lv_at hl 0 rfl) ?_
  refine lv_iconst (v := 4) C.1 C.2.1 dX12_init_41 (by decide) ?_
  refine mi_arr C hin hK hmo hW hF 8 4 (by decide) (by decide +kernel) (by decide) (by decide +kernel) (fun k' h1 h2 h3 => mt_inj k' h1 8 (by decide) h2 (by decide +kernel) (h3.trans (show 4 = mRk 8 by decide +kernel))) (by decide +kernel) (ty := .int) rfl rfl (by rw [show mCl cI cZ 8 = cI from by unfold mCl; rfl]; exact hK2.1) rfl ia_int (by decide) (by decide) (by decide) (by show 4 + 1 ≤ 61; decide) (by show 100 + 4 ≤ 113945; decide) dX12_init_42 fl_8 dX12_init_44 (fun H locs hW hF => ?_)
  refine W.cs (cells' := 5) (slots' := 104) rfl rfl ?_
  refine lv_aload_n C.1 C.2.1 dX12_init_47 rfl (lv_at hl 0 rfl) ?_
  refine lv_sipush (v := 1000) C.1 C.2.1 dX12_init_48 (by decide) ?_
  refine mi_arr C hin hK hmo hW hF 9 1000 (by decide) (by decide +kernel) (by decide) (by decide +kernel) (fun k' h1 h2 h3 => mt_inj k' h1 9 (by decide) h2 (by decide +kernel) (h3.trans (show 5 = mRk 9 by decide +kernel))) (by decide +kernel) (ty := .int) rfl rfl (by rw [show mCl cI cZ 9 = cI from by unfold mCl; rfl]; exact hK2.1) rfl ia_int (by decide) (by decide) (by decide) (by show 5 + 1 ≤ 61; decide) (by show 104 + 1000 ≤ 113945; decide) dX12_init_51 fl_9 dX12_init_53 (fun H locs hW hF => ?_)
  refine W.cs (cells' := 6) (slots' := 1104) rfl rfl ?_
  refine lv_aload_n C.1 C.2.1 dX12_init_56 rfl (lv_at hl 0 rfl) ?_
  refine lv_sipush (v := 1000) C.1 C.2.1 dX12_init_57 (by decide) ?_
  refine mi_arr C hin hK hmo hW hF 10 1000 (by decide) (by decide +kernel) (by decide) (by decide +kernel) (fun k' h1 h2 h3 => mt_inj k' h1 10 (by decide) h2 (by decide +kernel) (h3.trans (show 6 = mRk 10 by decide +kernel))) (by decide +kernel) (ty := .int) rfl rfl (by rw [show mCl cI cZ 10 = cI from by unfold mCl; rfl]; exact hK2.1) rfl ia_int (by decide) (by decide) (by decide) (by show 6 + 1 ≤ 61; decide) (by show 1104 + 1000 ≤ 113945; decide) dX12_init_60 fl_10 dX12_init_62 (fun H locs hW hF => ?_)
  refine W.cs (cells' := 7) (slots' := 2104) rfl rfl ?_
  refine lv_aload_n C.1 C.2.1 dX12_init_65 rfl (lv_at hl 0 rfl) ?_
  refine lv_sipush (v := 1000) C.1 C.2.1 dX12_init_66 (by decide) ?_
  refine mi_arr C hin hK hmo hW hF 11 1000 (by decide) (by decide +kernel) (by decide) (by decide +kernel) (fun k' h1 h2 h3 => mt_inj k' h1 11 (by decide) h2 (by decide +kernel) (h3.trans (show 7 = mRk 11 by decide +kernel))) (by decide +kernel) (ty := .int) rfl rfl (by rw [show mCl cI cZ 11 = cI from by unfold mCl; rfl]; exact hK2.1) rfl ia_int (by decide) (by decide) (by decide) (by show 7 + 1 ≤ 61; decide) (by show 2104 + 1000 ≤ 113945; decide) dX12_init_69 fl_11 dX12_init_71 (fun H locs hW hF => ?_)
  refine W.cs (cells' := 8) (slots' := 3104) rfl rfl ?_
  refine lv_aload_n C.1 C.2.1 dX12_init_74 rfl (lv_at hl 0 rfl) ?_
  refine lv_sipush (v := 1000) C.1 C.2.1 dX12_init_75 (by decide) ?_
  refine mi_arr C hin hK hmo hW hF 12 1000 (by decide) (by decide +kernel) (by decide) (by decide +kernel) (fun k' h1 h2 h3 => mt_inj k' h1 12 (by decide) h2 (by decide +kernel) (h3.trans (show 8 = mRk 12 by decide +kernel))) (by decide +kernel) (ty := .int) rfl rfl (by rw [show mCl cI cZ 12 = cI from by unfold mCl; rfl]; exact hK2.1) rfl ia_int (by decide) (by decide) (by decide) (by show 8 + 1 ≤ 61; decide) (by show 3104 + 1000 ≤ 113945; decide) dX12_init_78 fl_12 dX12_init_80 (fun H locs hW hF => ?_)
  refine W.cs (cells' := 9) (slots' := 4104) rfl rfl ?_
  refine lv_aload_n C.1 C.2.1 dX12_init_83 rfl (lv_at hl 0 rfl) ?_
  refine lv_sipush (v := 1000) C.1 C.2.1 dX12_init_84 (by decide) ?_
  refine mi_arr C hin hK hmo hW hF 13 1000 (by decide) (by decide +kernel) (by decide) (by decide +kernel) (fun k' h1 h2 h3 => mt_inj k' h1 13 (by decide) h2 (by decide +kernel) (h3.trans (show 9 = mRk 13 by decide +kernel))) (by decide +kernel) (ty := .int) rfl rfl (by rw [show mCl cI cZ 13 = cI from by unfold mCl; rfl]; exact hK2.1) rfl ia_int (by decide) (by decide) (by decide) (by show 9 + 1 ≤ 61; decide) (by show 4104 + 1000 ≤ 113945; decide) dX12_init_87 fl_13 dX12_init_89 (fun H locs hW hF => ?_)
  refine W.cs (cells' := 10) (slots' := 5104) rfl rfl ?_
  refine lv_aload_n C.1 C.2.1 dX12_init_92 rfl (lv_at hl 0 rfl) ?_
  refine lv_sipush (v := 1000) C.1 C.2.1 dX12_init_93 (by decide) ?_
  refine mi_arr C hin hK hmo hW hF 14 1000 (by decide) (by decide +kernel) (by decide) (by decide +kernel) (fun k' h1 h2 h3 => mt_inj k' h1 14 (by decide) h2 (by decide +kernel) (h3.trans (show 10 = mRk 14 by decide +kernel))) (by decide +kernel) (ty := .int) rfl rfl (by rw [show mCl cI cZ 14 = cI from by unfold mCl; rfl]; exact hK2.1) rfl ia_int (by decide) (by decide) (by decide) (by show 10 + 1 ≤ 61; decide) (by show 5104 + 1000 ≤ 113945; decide) dX12_init_96 fl_14 dX12_init_98 (fun H locs hW hF => ?_)
  refine W.cs (cells' := 11) (slots' := 6104) rfl rfl ?_
  refine lv_aload_n C.1 C.2.1 dX12_init_101 rfl (lv_at hl 0 rfl) ?_
  refine lv_sipush (v := 1000) C.1 C.2.1 dX12_init_102 (by decide) ?_
  refine mi_arr C hin hK hmo hW hF 15 1000 (by decide) (by decide +kernel) (by decide) (by decide +kernel) (fun k' h1 h2 h3 => mt_inj k' h1 15 (by decide) h2 (by decide +kernel) (h3.trans (show 11 = mRk 15 by decide +kernel))) (by decide +kernel) (ty := .int) rfl rfl (by rw [show mCl cI cZ 15 = cI from by unfold mCl; rfl]; exact hK2.1) rfl ia_int (by decide) (by decide) (by decide) (by show 11 + 1 ≤ 61; decide) (by show 6104 + 1000 ≤ 113945; decide) dX12_init_105 fl_15 dX12_init_107 (fun H locs hW hF => ?_)
  refine W.cs (cells' := 12) (slots' := 7104) rfl rfl ?_
  refine lv_aload_n C.1 C.2.1 dX12_init_110 rfl (lv_at hl 0 rfl) ?_
  refine lv_sipush (v := 4000) C.1 C.2.1 dX12_init_111 (by decide) ?_
  refine mi_arr C hin hK hmo hW hF 16 4000 (by decide) (by decide +kernel) (by decide) (by decide +kernel) (fun k' h1 h2 h3 => mt_inj k' h1 16 (by decide) h2 (by decide +kernel) (h3.trans (show 12 = mRk 16 by decide +kernel))) (by decide +kernel) (ty := .int) rfl rfl (by rw [show mCl cI cZ 16 = cI from by unfold mCl; rfl]; exact hK2.1) rfl ia_int (by decide) (by decide) (by decide) (by show 12 + 1 ≤ 61; decide) (by show 7104 + 4000 ≤ 113945; decide) dX12_init_114 fl_16 dX12_init_116 (fun H locs hW hF => ?_)
  refine W.cs (cells' := 13) (slots' := 11104) rfl rfl ?_
  refine lv_aload_n C.1 C.2.1 dX12_init_119 rfl (lv_at hl 0 rfl) ?_
  refine lv_iconst (v := 4) C.1 C.2.1 dX12_init_120 (by decide) ?_
  refine mi_arr C hin hK hmo hW hF 17 4 (by decide) (by decide +kernel) (by decide) (by decide +kernel) (fun k' h1 h2 h3 => mt_inj k' h1 17 (by decide) h2 (by decide +kernel) (h3.trans (show 13 = mRk 17 by decide +kernel))) (by decide +kernel) (ty := .int) rfl rfl (by rw [show mCl cI cZ 17 = cI from by unfold mCl; rfl]; exact hK2.1) rfl ia_int (by decide) (by decide) (by decide) (by show 13 + 1 ≤ 61; decide) (by show 11104 + 4 ≤ 113945; decide) dX12_init_121 fl_17 dX12_init_123 (fun H locs hW hF => ?_)
  refine W.cs (cells' := 14) (slots' := 11108) rfl rfl ?_
  refine lv_aload_n C.1 C.2.1 dX12_init_126 rfl (lv_at hl 0 rfl) ?_
  refine lv_iconst (v := 4) C.1 C.2.1 dX12_init_127 (by decide) ?_
  refine mi_arr C hin hK hmo hW hF 18 4 (by decide) (by decide +kernel) (by decide) (by decide +kernel) (fun k' h1 h2 h3 => mt_inj k' h1 18 (by decide) h2 (by decide +kernel) (h3.trans (show 14 = mRk 18 by decide +kernel))) (by decide +kernel) (ty := .int) rfl rfl (by rw [show mCl cI cZ 18 = cI from by unfold mCl; rfl]; exact hK2.1) rfl ia_int (by decide) (by decide) (by decide) (by show 14 + 1 ≤ 61; decide) (by show 11108 + 4 ≤ 113945; decide) dX12_init_128 fl_18 dX12_init_130 (fun H locs hW hF => ?_)
  refine W.cs (cells' := 15) (slots' := 11112) rfl rfl ?_
  refine lv_aload_n C.1 C.2.1 dX12_init_133 rfl (lv_at hl 0 rfl) ?_
  refine lv_iconst (v := 4) C.1 C.2.1 dX12_init_134 (by decide) ?_
  refine mi_arr C hin hK hmo hW hF 19 4 (by decide) (by decide +kernel) (by decide) (by decide +kernel) (fun k' h1 h2 h3 => mt_inj k' h1 19 (by decide) h2 (by decide +kernel) (h3.trans (show 15 = mRk 19 by decide +kernel))) (by decide +kernel) (ty := .int) rfl rfl (by rw [show mCl cI cZ 19 = cI from by unfold mCl; rfl]; exact hK2.1) rfl ia_int (by decide) (by decide) (by decide) (by show 15 + 1 ≤ 61; decide) (by show 11112 + 4 ≤ 113945; decide) dX12_init_135 fl_19 dX12_init_137 (fun H locs hW hF => ?_)
  refine W.cs (cells' := 16) (slots' := 11116) rfl rfl ?_
  refine lv_aload_n C.1 C.2.1 dX12_init_140 rfl (lv_at hl 0 rfl) ?_
  refine lv_bipush (v := 16) C.1 C.2.1 dX12_init_141 (by decide) ?_
  refine mi_arr C hin hK hmo hW hF 20 16 (by decide) (by decide +kernel) (by decide) (by decide +kernel) (fun k' h1 h2 h3 => mt_inj k' h1 20 (by decide) h2 (by decide +kernel) (h3.trans (show 16 = mRk 20 by decide +kernel))) (by decide +kernel) (ty := .int) rfl rfl (by rw [show mCl cI cZ 20 = cI from by unfold mCl; rfl]; exact hK2.1) rfl ia_int (by decide) (by decide) (by decide) (by show 16 + 1 ≤ 61; decide) (by show 11116 + 16 ≤ 113945; decide) dX12_init_143 fl_20 dX12_init_145 (fun H locs hW hF => ?_)
  refine W.cs (cells' := 17) (slots' := 11132) rfl rfl ?_
  refine lv_aload_n C.1 C.2.1 dX12_init_148 rfl (lv_at hl 0 rfl) ?_
  refine lv_bipush (v := 64) C.1 C.2.1 dX12_init_149 (by decide) ?_
  refine mi_arr C hin hK hmo hW hF 21 64 (by decide) (by decide +kernel) (by decide) (by decide +kernel) (fun k' h1 h2 h3 => mt_inj k' h1 21 (by decide) h2 (by decide +kernel) (h3.trans (show 17 = mRk 21 by decide +kernel))) (by decide +kernel) (ty := .int) rfl rfl (by rw [show mCl cI cZ 21 = cI from by unfold mCl; rfl]; exact hK2.1) rfl ia_int (by decide) (by decide) (by decide) (by show 17 + 1 ≤ 61; decide) (by show 11132 + 64 ≤ 113945; decide) dX12_init_151 fl_21 dX12_init_153 (fun H locs hW hF => ?_)
  refine W.cs (cells' := 18) (slots' := 11196) rfl rfl ?_
  refine lv_aload_n C.1 C.2.1 dX12_init_156 rfl (lv_at hl 0 rfl) ?_
  refine lv_bipush (v := 64) C.1 C.2.1 dX12_init_157 (by decide) ?_
  refine mi_arr C hin hK hmo hW hF 22 64 (by decide) (by decide +kernel) (by decide) (by decide +kernel) (fun k' h1 h2 h3 => mt_inj k' h1 22 (by decide) h2 (by decide +kernel) (h3.trans (show 18 = mRk 22 by decide +kernel))) (by decide +kernel) (ty := .int) rfl rfl (by rw [show mCl cI cZ 22 = cI from by unfold mCl; rfl]; exact hK2.1) rfl ia_int (by decide) (by decide) (by decide) (by show 18 + 1 ≤ 61; decide) (by show 11196 + 64 ≤ 113945; decide) dX12_init_159 fl_22 dX12_init_161 (fun H locs hW hF => ?_)
  refine W.cs (cells' := 19) (slots' := 11260) rfl rfl ?_
  refine lv_aload_n C.1 C.2.1 dX12_init_164 rfl (lv_at hl 0 rfl) ?_
  refine lv_iconst (v := 4) C.1 C.2.1 dX12_init_165 (by decide) ?_
  refine mi_arr C hin hK hmo hW hF 23 4 (by decide) (by decide +kernel) (by decide) (by decide +kernel) (fun k' h1 h2 h3 => mt_inj k' h1 23 (by decide) h2 (by decide +kernel) (h3.trans (show 19 = mRk 23 by decide +kernel))) (by decide +kernel) (ty := .int) rfl rfl (by rw [show mCl cI cZ 23 = cI from by unfold mCl; rfl]; exact hK2.1) rfl ia_int (by decide) (by decide) (by decide) (by show 19 + 1 ≤ 61; decide) (by show 11260 + 4 ≤ 113945; decide) dX12_init_166 fl_23 dX12_init_168 (fun H locs hW hF => ?_)
  refine W.cs (cells' := 20) (slots' := 11264) rfl rfl ?_
  refine lv_aload_n C.1 C.2.1 dX12_init_171 rfl (lv_at hl 0 rfl) ?_
  refine lv_sipush (v := 4000) C.1 C.2.1 dX12_init_172 (by decide) ?_
  refine mi_arr C hin hK hmo hW hF 24 4000 (by decide) (by decide +kernel) (by decide) (by decide +kernel) (fun k' h1 h2 h3 => mt_inj k' h1 24 (by decide) h2 (by decide +kernel) (h3.trans (show 20 = mRk 24 by decide +kernel))) (by decide +kernel) (ty := .int) rfl rfl (by rw [show mCl cI cZ 24 = cI from by unfold mCl; rfl]; exact hK2.1) rfl ia_int (by decide) (by decide) (by decide) (by show 20 + 1 ≤ 61; decide) (by show 11264 + 4000 ≤ 113945; decide) dX12_init_175 fl_24 dX12_init_177 (fun H locs hW hF => ?_)
  refine W.cs (cells' := 21) (slots' := 15264) rfl rfl ?_
  refine lv_aload_n C.1 C.2.1 dX12_init_180 rfl (lv_at hl 0 rfl) ?_
  refine lv_iconst (v := 4) C.1 C.2.1 dX12_init_181 (by decide) ?_
  refine mi_arr C hin hK hmo hW hF 25 4 (by decide) (by decide +kernel) (by decide) (by decide +kernel) (fun k' h1 h2 h3 => mt_inj k' h1 25 (by decide) h2 (by decide +kernel) (h3.trans (show 21 = mRk 25 by decide +kernel))) (by decide +kernel) (ty := .int) rfl rfl (by rw [show mCl cI cZ 25 = cI from by unfold mCl; rfl]; exact hK2.1) rfl ia_int (by decide) (by decide) (by decide) (by show 21 + 1 ≤ 61; decide) (by show 15264 + 4 ≤ 113945; decide) dX12_init_182 fl_25 dX12_init_184 (fun H locs hW hF => ?_)
  refine W.cs (cells' := 22) (slots' := 15268) rfl rfl ?_
  refine lv_aload_n C.1 C.2.1 dX12_init_187 rfl (lv_at hl 0 rfl) ?_
  refine lv_bipush (v := 120) C.1 C.2.1 dX12_init_188 (by decide) ?_
  refine mi_arr C hin hK hmo hW hF 26 120 (by decide) (by decide +kernel) (by decide) (by decide +kernel) (fun k' h1 h2 h3 => mt_inj k' h1 26 (by decide) h2 (by decide +kernel) (h3.trans (show 22 = mRk 26 by decide +kernel))) (by decide +kernel) (ty := .int) rfl rfl (by rw [show mCl cI cZ 26 = cI from by unfold mCl; rfl]; exact hK2.1) rfl ia_int (by decide) (by decide) (by decide) (by show 22 + 1 ≤ 61; decide) (by show 15268 + 120 ≤ 113945; decide) dX12_init_190 fl_26 dX12_init_192 (fun H locs hW hF => ?_)
  refine W.cs (cells' := 23) (slots' := 15388) rfl rfl ?_
  refine lv_aload_n C.1 C.2.1 dX12_init_195 rfl (lv_at hl 0 rfl) ?_
  refine lv_iconst (v := 4) C.1 C.2.1 dX12_init_196 (by decide) ?_
  refine mi_arr C hin hK hmo hW hF 27 4 (by decide) (by decide +kernel) (by decide) (by decide +kernel) (fun k' h1 h2 h3 => mt_inj k' h1 27 (by decide) h2 (by decide +kernel) (h3.trans (show 23 = mRk 27 by decide +kernel))) (by decide +kernel) (ty := .int) rfl rfl (by rw [show mCl cI cZ 27 = cI from by unfold mCl; rfl]; exact hK2.1) rfl ia_int (by decide) (by decide) (by decide) (by show 23 + 1 ≤ 61; decide) (by show 15388 + 4 ≤ 113945; decide) dX12_init_197 fl_27 dX12_init_199 (fun H locs hW hF => ?_)
  refine W.cs (cells' := 24) (slots' := 15392) rfl rfl ?_
  refine lv_aload_n C.1 C.2.1 dX12_init_202 rfl (lv_at hl 0 rfl) ?_
  refine lv_sipush (v := 1000) C.1 C.2.1 dX12_init_203 (by decide) ?_
  refine mi_arr C hin hK hmo hW hF 28 1000 (by decide) (by decide +kernel) (by decide) (by decide +kernel) (fun k' h1 h2 h3 => mt_inj k' h1 28 (by decide) h2 (by decide +kernel) (h3.trans (show 24 = mRk 28 by decide +kernel))) (by decide +kernel) (ty := .int) rfl rfl (by rw [show mCl cI cZ 28 = cI from by unfold mCl; rfl]; exact hK2.1) rfl ia_int (by decide) (by decide) (by decide) (by show 24 + 1 ≤ 61; decide) (by show 15392 + 1000 ≤ 113945; decide) dX12_init_206 fl_28 dX12_init_208 (fun H locs hW hF => ?_)
  refine W.cs (cells' := 25) (slots' := 16392) rfl rfl ?_
  refine lv_aload_n C.1 C.2.1 dX12_init_211 rfl (lv_at hl 0 rfl) ?_
  refine lv_sipush (v := 1000) C.1 C.2.1 dX12_init_212 (by decide) ?_
  refine mi_arr C hin hK hmo hW hF 29 1000 (by decide) (by decide +kernel) (by decide) (by decide +kernel) (fun k' h1 h2 h3 => mt_inj k' h1 29 (by decide) h2 (by decide +kernel) (h3.trans (show 25 = mRk 29 by decide +kernel))) (by decide +kernel) (ty := .int) rfl rfl (by rw [show mCl cI cZ 29 = cI from by unfold mCl; rfl]; exact hK2.1) rfl ia_int (by decide) (by decide) (by decide) (by show 25 + 1 ≤ 61; decide) (by show 16392 + 1000 ≤ 113945; decide) dX12_init_215 fl_29 dX12_init_217 (fun H locs hW hF => ?_)
  refine W.cs (cells' := 26) (slots' := 17392) rfl rfl ?_
  refine lv_aload_n C.1 C.2.1 dX12_init_220 rfl (lv_at hl 0 rfl) ?_
  refine lv_sipush (v := 1000) C.1 C.2.1 dX12_init_221 (by decide) ?_
  refine mi_arr C hin hK hmo hW hF 30 1000 (by decide) (by decide +kernel) (by decide) (by decide +kernel) (fun k' h1 h2 h3 => mt_inj k' h1 30 (by decide) h2 (by decide +kernel) (h3.trans (show 26 = mRk 30 by decide +kernel))) (by decide +kernel) (ty := .int) rfl rfl (by rw [show mCl cI cZ 30 = cI from by unfold mCl; rfl]; exact hK2.1) rfl ia_int (by decide) (by decide) (by decide) (by show 26 + 1 ≤ 61; decide) (by show 17392 + 1000 ≤ 113945; decide) dX12_init_224 fl_30 dX12_init_226 (fun H locs hW hF => ?_)
  refine W.cs (cells' := 27) (slots' := 18392) rfl rfl ?_
  refine lv_aload_n C.1 C.2.1 dX12_init_229 rfl (lv_at hl 0 rfl) ?_
  refine lv_bipush (v := 64) C.1 C.2.1 dX12_init_230 (by decide) ?_
  refine mi_arr C hin hK hmo hW hF 31 64 (by decide) (by decide +kernel) (by decide) (by decide +kernel) (fun k' h1 h2 h3 => mt_inj k' h1 31 (by decide) h2 (by decide +kernel) (h3.trans (show 27 = mRk 31 by decide +kernel))) (by decide +kernel) (ty := .int) rfl rfl (by rw [show mCl cI cZ 31 = cI from by unfold mCl; rfl]; exact hK2.1) rfl ia_int (by decide) (by decide) (by decide) (by show 27 + 1 ≤ 61; decide) (by show 18392 + 64 ≤ 113945; decide) dX12_init_232 fl_31 dX12_init_234 (fun H locs hW hF => ?_)
  refine W.cs (cells' := 28) (slots' := 18456) rfl rfl ?_
  refine lv_aload_n C.1 C.2.1 dX12_init_237 rfl (lv_at hl 0 rfl) ?_
  refine lv_bipush (v := 16) C.1 C.2.1 dX12_init_238 (by decide) ?_
  refine mi_arr C hin hK hmo hW hF 32 16 (by decide) (by decide +kernel) (by decide) (by decide +kernel) (fun k' h1 h2 h3 => mt_inj k' h1 32 (by decide) h2 (by decide +kernel) (h3.trans (show 28 = mRk 32 by decide +kernel))) (by decide +kernel) (ty := .boolean) rfl rfl (by rw [show mCl cI cZ 32 = cZ from by unfold mCl; rfl]; exact hK2.2) rfl ia_boolean (by decide) (by decide) (by decide) (by show 28 + 1 ≤ 61; decide) (by show 18456 + 16 ≤ 113945; decide) dX12_init_240 fl_32 dX12_init_242 (fun H locs hW hF => ?_)
  refine W.cs (cells' := 29) (slots' := 18472) rfl rfl ?_
  refine lv_aload_n C.1 C.2.1 dX12_init_245 rfl (lv_at hl 0 rfl) ?_
  refine lv_bipush (v := 16) C.1 C.2.1 dX12_init_246 (by decide) ?_
  refine mi_arr C hin hK hmo hW hF 33 16 (by decide) (by decide +kernel) (by decide) (by decide +kernel) (fun k' h1 h2 h3 => mt_inj k' h1 33 (by decide) h2 (by decide +kernel) (h3.trans (show 29 = mRk 33 by decide +kernel))) (by decide +kernel) (ty := .int) rfl rfl (by rw [show mCl cI cZ 33 = cI from by unfold mCl; rfl]; exact hK2.1) rfl ia_int (by decide) (by decide) (by decide) (by show 29 + 1 ≤ 61; decide) (by show 18472 + 16 ≤ 113945; decide) dX12_init_248 fl_33 dX12_init_250 (fun H locs hW hF => ?_)
  refine W.cs (cells' := 30) (slots' := 18488) rfl rfl ?_
  refine lv_aload_n C.1 C.2.1 dX12_init_253 rfl (lv_at hl 0 rfl) ?_
  refine lv_bipush (v := 16) C.1 C.2.1 dX12_init_254 (by decide) ?_
  refine mi_arr C hin hK hmo hW hF 34 16 (by decide) (by decide +kernel) (by decide) (by decide +kernel) (fun k' h1 h2 h3 => mt_inj k' h1 34 (by decide) h2 (by decide +kernel) (h3.trans (show 30 = mRk 34 by decide +kernel))) (by decide +kernel) (ty := .int) rfl rfl (by rw [show mCl cI cZ 34 = cI from by unfold mCl; rfl]; exact hK2.1) rfl ia_int (by decide) (by decide) (by decide) (by show 30 + 1 ≤ 61; decide) (by show 18488 + 16 ≤ 113945; decide) dX12_init_256 fl_34 dX12_init_258 (fun H locs hW hF => ?_)
  refine W.cs (cells' := 31) (slots' := 18504) rfl rfl ?_
  refine lv_aload_n C.1 C.2.1 dX12_init_261 rfl (lv_at hl 0 rfl) ?_
  refine lv_bipush (v := 16) C.1 C.2.1 dX12_init_262 (by decide) ?_
  refine mi_arr C hin hK hmo hW hF 35 16 (by decide) (by decide +kernel) (by decide) (by decide +kernel) (fun k' h1 h2 h3 => mt_inj k' h1 35 (by decide) h2 (by decide +kernel) (h3.trans (show 31 = mRk 35 by decide +kernel))) (by decide +kernel) (ty := .int) rfl rfl (by rw [show mCl cI cZ 35 = cI from by unfold mCl; rfl]; exact hK2.1) rfl ia_int (by decide) (by decide) (by decide) (by show 31 + 1 ≤ 61; decide) (by show 18504 + 16 ≤ 113945; decide) dX12_init_264 fl_35 dX12_init_266 (fun H locs hW hF => ?_)
  refine W.cs (cells' := 32) (slots' := 18520) rfl rfl ?_
  refine lv_aload_n C.1 C.2.1 dX12_init_269 rfl (lv_at hl 0 rfl) ?_
  refine lv_bipush (v := 16) C.1 C.2.1 dX12_init_270 (by decide) ?_
  refine mi_arr C hin hK hmo hW hF 36 16 (by decide) (by decide +kernel) (by decide) (by decide +kernel) (fun k' h1 h2 h3 => mt_inj k' h1 36 (by decide) h2 (by decide +kernel) (h3.trans (show 32 = mRk 36 by decide +kernel))) (by decide +kernel) (ty := .int) rfl rfl (by rw [show mCl cI cZ 36 = cI from by unfold mCl; rfl]; exact hK2.1) rfl ia_int (by decide) (by decide) (by decide) (by show 32 + 1 ≤ 61; decide) (by show 18520 + 16 ≤ 113945; decide) dX12_init_272 fl_36 dX12_init_274 (fun H locs hW hF => ?_)
  refine W.cs (cells' := 33) (slots' := 18536) rfl rfl ?_
  refine lv_aload_n C.1 C.2.1 dX12_init_277 rfl (lv_at hl 0 rfl) ?_
  refine lv_iconst (v := 4) C.1 C.2.1 dX12_init_278 (by decide) ?_
  refine mi_arr C hin hK hmo hW hF 37 4 (by decide) (by decide +kernel) (by decide) (by decide +kernel) (fun k' h1 h2 h3 => mt_inj k' h1 37 (by decide) h2 (by decide +kernel) (h3.trans (show 33 = mRk 37 by decide +kernel))) (by decide +kernel) (ty := .int) rfl rfl (by rw [show mCl cI cZ 37 = cI from by unfold mCl; rfl]; exact hK2.1) rfl ia_int (by decide) (by decide) (by decide) (by show 33 + 1 ≤ 61; decide) (by show 18536 + 4 ≤ 113945; decide) dX12_init_279 fl_37 dX12_init_281 (fun H locs hW hF => ?_)
  refine W.cs (cells' := 34) (slots' := 18540) rfl rfl ?_
  refine lv_aload_n C.1 C.2.1 dX12_init_284 rfl (lv_at hl 0 rfl) ?_
  refine lv_sipush (v := 800) C.1 C.2.1 dX12_init_285 (by decide) ?_
  refine mi_arr C hin hK hmo hW hF 38 800 (by decide) (by decide +kernel) (by decide) (by decide +kernel) (fun k' h1 h2 h3 => mt_inj k' h1 38 (by decide) h2 (by decide +kernel) (h3.trans (show 34 = mRk 38 by decide +kernel))) (by decide +kernel) (ty := .int) rfl rfl (by rw [show mCl cI cZ 38 = cI from by unfold mCl; rfl]; exact hK2.1) rfl ia_int (by decide) (by decide) (by decide) (by show 34 + 1 ≤ 61; decide) (by show 18540 + 800 ≤ 113945; decide) dX12_init_288 fl_38 dX12_init_290 (fun H locs hW hF => ?_)
  refine W.cs (cells' := 35) (slots' := 19340) rfl rfl ?_
  refine lv_aload_n C.1 C.2.1 dX12_init_293 rfl (lv_at hl 0 rfl) ?_
  refine lv_sipush (v := 800) C.1 C.2.1 dX12_init_294 (by decide) ?_
  refine mi_arr C hin hK hmo hW hF 39 800 (by decide) (by decide +kernel) (by decide) (by decide +kernel) (fun k' h1 h2 h3 => mt_inj k' h1 39 (by decide) h2 (by decide +kernel) (h3.trans (show 35 = mRk 39 by decide +kernel))) (by decide +kernel) (ty := .int) rfl rfl (by rw [show mCl cI cZ 39 = cI from by unfold mCl; rfl]; exact hK2.1) rfl ia_int (by decide) (by decide) (by decide) (by show 35 + 1 ≤ 61; decide) (by show 19340 + 800 ≤ 113945; decide) dX12_init_297 fl_39 dX12_init_299 (fun H locs hW hF => ?_)
  refine W.cs (cells' := 36) (slots' := 20140) rfl rfl ?_
  refine lv_aload_n C.1 C.2.1 dX12_init_302 rfl (lv_at hl 0 rfl) ?_
  refine lv_sipush (v := 800) C.1 C.2.1 dX12_init_303 (by decide) ?_
  refine mi_arr C hin hK hmo hW hF 40 800 (by decide) (by decide +kernel) (by decide) (by decide +kernel) (fun k' h1 h2 h3 => mt_inj k' h1 40 (by decide) h2 (by decide +kernel) (h3.trans (show 36 = mRk 40 by decide +kernel))) (by decide +kernel) (ty := .int) rfl rfl (by rw [show mCl cI cZ 40 = cI from by unfold mCl; rfl]; exact hK2.1) rfl ia_int (by decide) (by decide) (by decide) (by show 36 + 1 ≤ 61; decide) (by show 20140 + 800 ≤ 113945; decide) dX12_init_306 fl_40 dX12_init_308 (fun H locs hW hF => ?_)
  refine W.cs (cells' := 37) (slots' := 20940) rfl rfl ?_
  refine lv_aload_n C.1 C.2.1 dX12_init_311 rfl (lv_at hl 0 rfl) ?_
  refine lv_sipush (v := 800) C.1 C.2.1 dX12_init_312 (by decide) ?_
  refine mi_arr C hin hK hmo hW hF 41 800 (by decide) (by decide +kernel) (by decide) (by decide +kernel) (fun k' h1 h2 h3 => mt_inj k' h1 41 (by decide) h2 (by decide +kernel) (h3.trans (show 37 = mRk 41 by decide +kernel))) (by decide +kernel) (ty := .int) rfl rfl (by rw [show mCl cI cZ 41 = cI from by unfold mCl; rfl]; exact hK2.1) rfl ia_int (by decide) (by decide) (by decide) (by show 37 + 1 ≤ 61; decide) (by show 20940 + 800 ≤ 113945; decide) dX12_init_315 fl_41 dX12_init_317 (fun H locs hW hF => ?_)
  refine W.cs (cells' := 38) (slots' := 21740) rfl rfl ?_
  refine lv_aload_n C.1 C.2.1 dX12_init_320 rfl (lv_at hl 0 rfl) ?_
  refine lv_ldc (own := RX12) (v := 38400) C.1 C.2.1 C.2.2.2.1 (C.2.2.2.2.1 _ kc_129) dX12_init_321 ?_
  refine mi_arr C hin hK hmo hW hF 46 38400 (by decide) (by decide +kernel) (by decide) (by decide +kernel) (fun k' h1 h2 h3 => mt_inj k' h1 46 (by decide) h2 (by decide +kernel) (h3.trans (show 38 = mRk 46 by decide +kernel))) (by decide +kernel) (ty := .int) rfl rfl (by rw [show mCl cI cZ 46 = cI from by unfold mCl; rfl]; exact hK2.1) rfl ia_int (by decide) (by decide) (by decide) (by show 38 + 1 ≤ 61; decide) (by show 21740 + 38400 ≤ 113945; decide) dX12_init_323 fl_46 dX12_init_325 (fun H locs hW hF => ?_)
  refine W.cs (cells' := 39) (slots' := 60140) rfl rfl ?_
  refine lv_aload_n C.1 C.2.1 dX12_init_328 rfl (lv_at hl 0 rfl) ?_
  refine lv_sipush (v := 1000) C.1 C.2.1 dX12_init_329 (by decide) ?_
  refine mi_arr C hin hK hmo hW hF 47 1000 (by decide) (by decide +kernel) (by decide) (by decide +kernel) (fun k' h1 h2 h3 => mt_inj k' h1 47 (by decide) h2 (by decide +kernel) (h3.trans (show 39 = mRk 47 by decide +kernel))) (by decide +kernel) (ty := .boolean) rfl rfl (by rw [show mCl cI cZ 47 = cZ from by unfold mCl; rfl]; exact hK2.2) rfl ia_boolean (by decide) (by decide) (by decide) (by show 39 + 1 ≤ 61; decide) (by show 60140 + 1000 ≤ 113945; decide) dX12_init_332 fl_47 dX12_init_334 (fun H locs hW hF => ?_)
  refine W.cs (cells' := 40) (slots' := 61140) rfl rfl ?_
  refine lv_aload_n C.1 C.2.1 dX12_init_337 rfl (lv_at hl 0 rfl) ?_
  refine lv_sipush (v := 1000) C.1 C.2.1 dX12_init_338 (by decide) ?_
  refine mi_arr C hin hK hmo hW hF 48 1000 (by decide) (by decide +kernel) (by decide) (by decide +kernel) (fun k' h1 h2 h3 => mt_inj k' h1 48 (by decide) h2 (by decide +kernel) (h3.trans (show 40 = mRk 48 by decide +kernel))) (by decide +kernel) (ty := .int) rfl rfl (by rw [show mCl cI cZ 48 = cI from by unfold mCl; rfl]; exact hK2.1) rfl ia_int (by decide) (by decide) (by decide) (by show 40 + 1 ≤ 61; decide) (by show 61140 + 1000 ≤ 113945; decide) dX12_init_341 fl_48 dX12_init_343 (fun H locs hW hF => ?_)
  refine W.cs (cells' := 41) (slots' := 62140) rfl rfl ?_
  refine lv_aload_n C.1 C.2.1 dX12_init_346 rfl (lv_at hl 0 rfl) ?_
  refine lv_sipush (v := 1000) C.1 C.2.1 dX12_init_347 (by decide) ?_
  refine mi_arr C hin hK hmo hW hF 50 1000 (by decide) (by decide +kernel) (by decide) (by decide +kernel) (fun k' h1 h2 h3 => mt_inj k' h1 50 (by decide) h2 (by decide +kernel) (h3.trans (show 41 = mRk 50 by decide +kernel))) (by decide +kernel) (ty := .int) rfl rfl (by rw [show mCl cI cZ 50 = cI from by unfold mCl; rfl]; exact hK2.1) rfl ia_int (by decide) (by decide) (by decide) (by show 41 + 1 ≤ 61; decide) (by show 62140 + 1000 ≤ 113945; decide) dX12_init_350 fl_50 dX12_init_352 (fun H locs hW hF => ?_)
  refine W.cs (cells' := 42) (slots' := 63140) rfl rfl ?_
  refine lv_aload_n C.1 C.2.1 dX12_init_355 rfl (lv_at hl 0 rfl) ?_
  refine lv_sipush (v := 1000) C.1 C.2.1 dX12_init_356 (by decide) ?_
  refine mi_arr C hin hK hmo hW hF 51 1000 (by decide) (by decide +kernel) (by decide) (by decide +kernel) (fun k' h1 h2 h3 => mt_inj k' h1 51 (by decide) h2 (by decide +kernel) (h3.trans (show 42 = mRk 51 by decide +kernel))) (by decide +kernel) (ty := .int) rfl rfl (by rw [show mCl cI cZ 51 = cI from by unfold mCl; rfl]; exact hK2.1) rfl ia_int (by decide) (by decide) (by decide) (by show 42 + 1 ≤ 61; decide) (by show 63140 + 1000 ≤ 113945; decide) dX12_init_359 fl_51 dX12_init_361 (fun H locs hW hF => ?_)
  refine W.cs (cells' := 43) (slots' := 64140) rfl rfl ?_
  refine lv_aload_n C.1 C.2.1 dX12_init_364 rfl (lv_at hl 0 rfl) ?_
  refine lv_sipush (v := 1000) C.1 C.2.1 dX12_init_365 (by decide) ?_
  refine mi_arr C hin hK hmo hW hF 53 1000 (by decide) (by decide +kernel) (by decide) (by decide +kernel) (fun k' h1 h2 h3 => mt_inj k' h1 53 (by decide) h2 (by decide +kernel) (h3.trans (show 43 = mRk 53 by decide +kernel))) (by decide +kernel) (ty := .int) rfl rfl (by rw [show mCl cI cZ 53 = cI from by unfold mCl; rfl]; exact hK2.1) rfl ia_int (by decide) (by decide) (by decide) (by show 43 + 1 ≤ 61; decide) (by show 64140 + 1000 ≤ 113945; decide) dX12_init_368 fl_53 dX12_init_370 (fun H locs hW hF => ?_)
  refine W.cs (cells' := 44) (slots' := 65140) rfl rfl ?_
  refine lv_aload_n C.1 C.2.1 dX12_init_373 rfl (lv_at hl 0 rfl) ?_
  refine lv_bipush (v := 48) C.1 C.2.1 dX12_init_374 (by decide) ?_
  refine mi_arr C hin hK hmo hW hF 55 48 (by decide) (by decide +kernel) (by decide) (by decide +kernel) (fun k' h1 h2 h3 => mt_inj k' h1 55 (by decide) h2 (by decide +kernel) (h3.trans (show 44 = mRk 55 by decide +kernel))) (by decide +kernel) (ty := .int) rfl rfl (by rw [show mCl cI cZ 55 = cI from by unfold mCl; rfl]; exact hK2.1) rfl ia_int (by decide) (by decide) (by decide) (by show 44 + 1 ≤ 61; decide) (by show 65140 + 48 ≤ 113945; decide) dX12_init_376 fl_55 dX12_init_378 (fun H locs hW hF => ?_)
  refine W.cs (cells' := 45) (slots' := 65188) rfl rfl ?_
  refine lv_aload_n C.1 C.2.1 dX12_init_381 rfl (lv_at hl 0 rfl) ?_
  refine lv_bipush (v := 48) C.1 C.2.1 dX12_init_382 (by decide) ?_
  refine mi_arr C hin hK hmo hW hF 56 48 (by decide) (by decide +kernel) (by decide) (by decide +kernel) (fun k' h1 h2 h3 => mt_inj k' h1 56 (by decide) h2 (by decide +kernel) (h3.trans (show 45 = mRk 56 by decide +kernel))) (by decide +kernel) (ty := .int) rfl rfl (by rw [show mCl cI cZ 56 = cI from by unfold mCl; rfl]; exact hK2.1) rfl ia_int (by decide) (by decide) (by decide) (by show 45 + 1 ≤ 61; decide) (by show 65188 + 48 ≤ 113945; decide) dX12_init_384 fl_56 dX12_init_386 (fun H locs hW hF => ?_)
  refine W.cs (cells' := 46) (slots' := 65236) rfl rfl ?_
  refine lv_aload_n C.1 C.2.1 dX12_init_389 rfl (lv_at hl 0 rfl) ?_
  refine lv_sipush (v := 1000) C.1 C.2.1 dX12_init_390 (by decide) ?_
  refine mi_arr C hin hK hmo hW hF 58 1000 (by decide) (by decide +kernel) (by decide) (by decide +kernel) (fun k' h1 h2 h3 => mt_inj k' h1 58 (by decide) h2 (by decide +kernel) (h3.trans (show 46 = mRk 58 by decide +kernel))) (by decide +kernel) (ty := .int) rfl rfl (by rw [show mCl cI cZ 58 = cI from by unfold mCl; rfl]; exact hK2.1) rfl ia_int (by decide) (by decide) (by decide) (by show 46 + 1 ≤ 61; decide) (by show 65236 + 1000 ≤ 113945; decide) dX12_init_393 fl_58 dX12_init_395 (fun H locs hW hF => ?_)
  refine W.cs (cells' := 47) (slots' := 66236) rfl rfl ?_
  refine lv_aload_n C.1 C.2.1 dX12_init_398 rfl (lv_at hl 0 rfl) ?_
  refine lv_sipush (v := 1000) C.1 C.2.1 dX12_init_399 (by decide) ?_
  refine mi_arr C hin hK hmo hW hF 60 1000 (by decide) (by decide +kernel) (by decide) (by decide +kernel) (fun k' h1 h2 h3 => mt_inj k' h1 60 (by decide) h2 (by decide +kernel) (h3.trans (show 47 = mRk 60 by decide +kernel))) (by decide +kernel) (ty := .int) rfl rfl (by rw [show mCl cI cZ 60 = cI from by unfold mCl; rfl]; exact hK2.1) rfl ia_int (by decide) (by decide) (by decide) (by show 47 + 1 ≤ 61; decide) (by show 66236 + 1000 ≤ 113945; decide) dX12_init_402 fl_60 dX12_init_404 (fun H locs hW hF => ?_)
  refine W.cs (cells' := 48) (slots' := 67236) rfl rfl ?_
  refine lv_aload_n C.1 C.2.1 dX12_init_407 rfl (lv_at hl 0 rfl) ?_
  refine lv_sipush (v := 1000) C.1 C.2.1 dX12_init_408 (by decide) ?_
  refine mi_arr C hin hK hmo hW hF 62 1000 (by decide) (by decide +kernel) (by decide) (by decide +kernel) (fun k' h1 h2 h3 => mt_inj k' h1 62 (by decide) h2 (by decide +kernel) (h3.trans (show 48 = mRk 62 by decide +kernel))) (by decide +kernel) (ty := .int) rfl rfl (by rw [show mCl cI cZ 62 = cI from by unfold mCl; rfl]; exact hK2.1) rfl ia_int (by decide) (by decide) (by decide) (by show 48 + 1 ≤ 61; decide) (by show 67236 + 1000 ≤ 113945; decide) dX12_init_411 fl_62 dX12_init_413 (fun H locs hW hF => ?_)
  refine W.cs (cells' := 49) (slots' := 68236) rfl rfl ?_
  refine lv_aload_n C.1 C.2.1 dX12_init_416 rfl (lv_at hl 0 rfl) ?_
  refine lv_sipush (v := 1000) C.1 C.2.1 dX12_init_417 (by decide) ?_
  refine mi_arr C hin hK hmo hW hF 63 1000 (by decide) (by decide +kernel) (by decide) (by decide +kernel) (fun k' h1 h2 h3 => mt_inj k' h1 63 (by decide) h2 (by decide +kernel) (h3.trans (show 49 = mRk 63 by decide +kernel))) (by decide +kernel) (ty := .int) rfl rfl (by rw [show mCl cI cZ 63 = cI from by unfold mCl; rfl]; exact hK2.1) rfl ia_int (by decide) (by decide) (by decide) (by show 49 + 1 ≤ 61; decide) (by show 68236 + 1000 ≤ 113945; decide) dX12_init_420 fl_63 dX12_init_422 (fun H locs hW hF => ?_)
  refine W.cs (cells' := 50) (slots' := 69236) rfl rfl ?_
  refine lv_aload_n C.1 C.2.1 dX12_init_425 rfl (lv_at hl 0 rfl) ?_
  refine lv_bipush (v := 48) C.1 C.2.1 dX12_init_426 (by decide) ?_
  refine mi_arr C hin hK hmo hW hF 64 48 (by decide) (by decide +kernel) (by decide) (by decide +kernel) (fun k' h1 h2 h3 => mt_inj k' h1 64 (by decide) h2 (by decide +kernel) (h3.trans (show 50 = mRk 64 by decide +kernel))) (by decide +kernel) (ty := .int) rfl rfl (by rw [show mCl cI cZ 64 = cI from by unfold mCl; rfl]; exact hK2.1) rfl ia_int (by decide) (by decide) (by decide) (by show 50 + 1 ≤ 61; decide) (by show 69236 + 48 ≤ 113945; decide) dX12_init_428 fl_64 dX12_init_430 (fun H locs hW hF => ?_)
  refine W.cs (cells' := 51) (slots' := 69284) rfl rfl ?_
  refine lv_aload_n C.1 C.2.1 dX12_init_433 rfl (lv_at hl 0 rfl) ?_
  refine lv_sipush (v := 192) C.1 C.2.1 dX12_init_434 (by decide) ?_
  refine mi_arr C hin hK hmo hW hF 65 192 (by decide) (by decide +kernel) (by decide) (by decide +kernel) (fun k' h1 h2 h3 => mt_inj k' h1 65 (by decide) h2 (by decide +kernel) (h3.trans (show 51 = mRk 65 by decide +kernel))) (by decide +kernel) (ty := .int) rfl rfl (by rw [show mCl cI cZ 65 = cI from by unfold mCl; rfl]; exact hK2.1) rfl ia_int (by decide) (by decide) (by decide) (by show 51 + 1 ≤ 61; decide) (by show 69284 + 192 ≤ 113945; decide) dX12_init_437 fl_65 dX12_init_439 (fun H locs hW hF => ?_)
  refine W.cs (cells' := 52) (slots' := 69476) rfl rfl ?_
  refine lv_aload_n C.1 C.2.1 dX12_init_442 rfl (lv_at hl 0 rfl) ?_
  refine lv_iconst (v := 4) C.1 C.2.1 dX12_init_443 (by decide) ?_
  refine mi_arr C hin hK hmo hW hF 66 4 (by decide) (by decide +kernel) (by decide) (by decide +kernel) (fun k' h1 h2 h3 => mt_inj k' h1 66 (by decide) h2 (by decide +kernel) (h3.trans (show 52 = mRk 66 by decide +kernel))) (by decide +kernel) (ty := .int) rfl rfl (by rw [show mCl cI cZ 66 = cI from by unfold mCl; rfl]; exact hK2.1) rfl ia_int (by decide) (by decide) (by decide) (by show 52 + 1 ≤ 61; decide) (by show 69476 + 4 ≤ 113945; decide) dX12_init_444 fl_66 dX12_init_446 (fun H locs hW hF => ?_)
  refine W.cs (cells' := 53) (slots' := 69480) rfl rfl ?_
  refine lv_aload_n C.1 C.2.1 dX12_init_449 rfl (lv_at hl 0 rfl) ?_
  refine lv_bipush (v := 48) C.1 C.2.1 dX12_init_450 (by decide) ?_
  refine mi_arr C hin hK hmo hW hF 68 48 (by decide) (by decide +kernel) (by decide) (by decide +kernel) (fun k' h1 h2 h3 => mt_inj k' h1 68 (by decide) h2 (by decide +kernel) (h3.trans (show 53 = mRk 68 by decide +kernel))) (by decide +kernel) (ty := .int) rfl rfl (by rw [show mCl cI cZ 68 = cI from by unfold mCl; rfl]; exact hK2.1) rfl ia_int (by decide) (by decide) (by decide) (by show 53 + 1 ≤ 61; decide) (by show 69480 + 48 ≤ 113945; decide) dX12_init_452 fl_68 dX12_init_454 (fun H locs hW hF => ?_)
  refine W.cs (cells' := 54) (slots' := 69528) rfl rfl ?_
  refine lv_aload_n C.1 C.2.1 dX12_init_457 rfl (lv_at hl 0 rfl) ?_
  refine lv_ldc (own := RX12) (v := 41041) C.1 C.2.1 C.2.2.2.1 (C.2.2.2.2.1 _ kc_178) dX12_init_458 ?_
  refine mi_arr C hin hK hmo hW hF 71 41041 (by decide) (by decide +kernel) (by decide) (by decide +kernel) (fun k' h1 h2 h3 => mt_inj k' h1 71 (by decide) h2 (by decide +kernel) (h3.trans (show 54 = mRk 71 by decide +kernel))) (by decide +kernel) (ty := .int) rfl rfl (by rw [show mCl cI cZ 71 = cI from by unfold mCl; rfl]; exact hK2.1) rfl ia_int (by decide) (by decide) (by decide) (by show 54 + 1 ≤ 61; decide) (by show 69528 + 41041 ≤ 113945; decide) dX12_init_460 fl_71 dX12_init_462 (fun H locs hW hF => ?_)
  refine W.cs (cells' := 55) (slots' := 110569) rfl rfl ?_
  refine lv_aload_n C.1 C.2.1 dX12_init_465 rfl (lv_at hl 0 rfl) ?_
  refine lv_sipush (v := 1000) C.1 C.2.1 dX12_init_466 (by decide) ?_
  refine mi_arr C hin hK hmo hW hF 72 1000 (by decide) (by decide +kernel) (by decide) (by decide +kernel) (fun k' h1 h2 h3 => mt_inj k' h1 72 (by decide) h2 (by decide +kernel) (h3.trans (show 55 = mRk 72 by decide +kernel))) (by decide +kernel) (ty := .int) rfl rfl (by rw [show mCl cI cZ 72 = cI from by unfold mCl; rfl]; exact hK2.1) rfl ia_int (by decide) (by decide) (by decide) (by show 55 + 1 ≤ 61; decide) (by show 110569 + 1000 ≤ 113945; decide) dX12_init_469 fl_72 dX12_init_471 (fun H locs hW hF => ?_)
  refine W.cs (cells' := 56) (slots' := 111569) rfl rfl ?_
  refine lv_aload_n C.1 C.2.1 dX12_init_474 rfl (lv_at hl 0 rfl) ?_
  refine lv_sipush (v := 1000) C.1 C.2.1 dX12_init_475 (by decide) ?_
  refine mi_arr C hin hK hmo hW hF 73 1000 (by decide) (by decide +kernel) (by decide) (by decide +kernel) (fun k' h1 h2 h3 => mt_inj k' h1 73 (by decide) h2 (by decide +kernel) (h3.trans (show 56 = mRk 73 by decide +kernel))) (by decide +kernel) (ty := .int) rfl rfl (by rw [show mCl cI cZ 73 = cI from by unfold mCl; rfl]; exact hK2.1) rfl ia_int (by decide) (by decide) (by decide) (by show 56 + 1 ≤ 61; decide) (by show 111569 + 1000 ≤ 113945; decide) dX12_init_478 fl_73 dX12_init_480 (fun H locs hW hF => ?_)
  refine W.cs (cells' := 57) (slots' := 112569) rfl rfl ?_
  refine lv_aload_n C.1 C.2.1 dX12_init_483 rfl (lv_at hl 0 rfl) ?_
  refine lv_sipush (v := 640) C.1 C.2.1 dX12_init_484 (by decide) ?_
  refine mi_arr C hin hK hmo hW hF 75 640 (by decide) (by decide +kernel) (by decide) (by decide +kernel) (fun k' h1 h2 h3 => mt_inj k' h1 75 (by decide) h2 (by decide +kernel) (h3.trans (show 57 = mRk 75 by decide +kernel))) (by decide +kernel) (ty := .int) rfl rfl (by rw [show mCl cI cZ 75 = cI from by unfold mCl; rfl]; exact hK2.1) rfl ia_int (by decide) (by decide) (by decide) (by show 57 + 1 ≤ 61; decide) (by show 112569 + 640 ≤ 113945; decide) dX12_init_487 fl_75 dX12_init_489 (fun H locs hW hF => ?_)
  refine W.cs (cells' := 58) (slots' := 113209) rfl rfl ?_
  refine lv_aload_n C.1 C.2.1 dX12_init_492 rfl (lv_at hl 0 rfl) ?_
  refine lv_sipush (v := 640) C.1 C.2.1 dX12_init_493 (by decide) ?_
  refine mi_arr C hin hK hmo hW hF 76 640 (by decide) (by decide +kernel) (by decide) (by decide +kernel) (fun k' h1 h2 h3 => mt_inj k' h1 76 (by decide) h2 (by decide +kernel) (h3.trans (show 58 = mRk 76 by decide +kernel))) (by decide +kernel) (ty := .int) rfl rfl (by rw [show mCl cI cZ 76 = cI from by unfold mCl; rfl]; exact hK2.1) rfl ia_int (by decide) (by decide) (by decide) (by show 58 + 1 ≤ 61; decide) (by show 113209 + 640 ≤ 113945; decide) dX12_init_496 fl_76 dX12_init_498 (fun H locs hW hF => ?_)
  refine W.cs (cells' := 59) (slots' := 113849) rfl rfl ?_
  refine lv_aload_n C.1 C.2.1 dX12_init_501 rfl (lv_at hl 0 rfl) ?_
  refine lv_bipush (v := 48) C.1 C.2.1 dX12_init_502 (by decide) ?_
  refine mi_arr C hin hK hmo hW hF 78 48 (by decide) (by decide +kernel) (by decide) (by decide +kernel) (fun k' h1 h2 h3 => mt_inj k' h1 78 (by decide) h2 (by decide +kernel) (h3.trans (show 59 = mRk 78 by decide +kernel))) (by decide +kernel) (ty := .int) rfl rfl (by rw [show mCl cI cZ 78 = cI from by unfold mCl; rfl]; exact hK2.1) rfl ia_int (by decide) (by decide) (by decide) (by show 59 + 1 ≤ 61; decide) (by show 113849 + 48 ≤ 113945; decide) dX12_init_504 fl_78 dX12_init_506 (fun H locs hW hF => ?_)
  refine W.cs (cells' := 60) (slots' := 113897) rfl rfl ?_
  refine lv_aload_n C.1 C.2.1 dX12_init_509 rfl (lv_at hl 0 rfl) ?_
  refine lv_bipush (v := 48) C.1 C.2.1 dX12_init_510 (by decide) ?_
  refine mi_arr C hin hK hmo hW hF 79 48 (by decide) (by decide +kernel) (by decide) (by decide +kernel) (fun k' h1 h2 h3 => mt_inj k' h1 79 (by decide) h2 (by decide +kernel) (h3.trans (show 60 = mRk 79 by decide +kernel))) (by decide +kernel) (ty := .int) rfl rfl (by rw [show mCl cI cZ 79 = cI from by unfold mCl; rfl]; exact hK2.1) rfl ia_int (by decide) (by decide) (by decide) (by show 60 + 1 ≤ 61; decide) (by show 113897 + 48 ≤ 113945; decide) dX12_init_512 fl_79 dX12_init_514 (fun H locs hW hF => ?_)
  refine W.cs (cells' := 61) (slots' := 113945) rfl rfl ?_
  refine W.vret C.1 C.2.1 B.returns (fun t ht _ => ⟨rfl, ⟨?_, fun k hk => ?_⟩, by rw [ht]; exact hW.2.2, fun q h1 h2 => by rw [ht]; exact hF.1 q h1 h2⟩) hF.2 dX12_init_517
  · rw [ht]
    refine hW.1.to (fun k hk => ?_)
    unfold iV mV mS0
    by_cases hz : mLen k = 0
    · simp [hz]
    · simp [hz, mt_rk k hk hz]
  · rw [ht]
    have hk8 : k < 80 := by
      by_cases q : k < 80
      · exact q
      · exact absurd (mt_len k (by omega)) hk
    exact hW.2.1 k hk (mt_rk k hk8 hk)
