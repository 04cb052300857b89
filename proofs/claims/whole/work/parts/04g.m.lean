-- made by wip/whole/walk.py: the reference's apply, isReady, ruleFor, canBeUndone
theorem dX12_apply_0 : decode cX12_apply 0 = .ok (.aload_n 0, 1) := by decide +kernel
theorem dX12_apply_1 : decode cX12_apply 1 = .ok (.getfield 29, 3) := by decide +kernel
theorem dX12_apply_4 : decode cX12_apply 4 = .ok (.iload_n 2, 1) := by decide +kernel
theorem dX12_apply_5 : decode cX12_apply 5 = .ok (.iaload, 1) := by decide +kernel
theorem dX12_apply_6 : decode cX12_apply 6 = .ok (.bipush 13, 2) := by decide +kernel
theorem dX12_apply_8 : decode cX12_apply 8 = .ok (.if_icmp .eq 14, 3) := by decide +kernel
theorem dX12_apply_11 : decode cX12_apply 11 = .ok (.aload_n 0, 1) := by decide +kernel
theorem dX12_apply_12 : decode cX12_apply 12 = .ok (.getfield 29, 3) := by decide +kernel
theorem dX12_apply_15 : decode cX12_apply 15 = .ok (.iload_n 2, 1) := by decide +kernel
theorem dX12_apply_16 : decode cX12_apply 16 = .ok (.iaload, 1) := by decide +kernel
theorem dX12_apply_17 : decode cX12_apply 17 = .ok (.bipush 14, 2) := by decide +kernel
theorem dX12_apply_19 : decode cX12_apply 19 = .ok (.if_icmp .ne 15, 3) := by decide +kernel
theorem dX12_apply_22 : decode cX12_apply 22 = .ok (.aload_n 0, 1) := by decide +kernel
theorem dX12_apply_23 : decode cX12_apply 23 = .ok (.getfield 41, 3) := by decide +kernel
theorem dX12_apply_26 : decode cX12_apply 26 = .ok (.iload_n 2, 1) := by decide +kernel
theorem dX12_apply_27 : decode cX12_apply 27 = .ok (.iaload, 1) := by decide +kernel
theorem dX12_apply_28 : decode cX12_apply 28 = .ok (.invokestatic 233, 3) := by decide +kernel
theorem dX12_apply_31 : decode cX12_apply 31 = .ok (.goto 4, 3) := by decide +kernel
theorem dX12_apply_34 : decode cX12_apply 34 = .ok (.iload_n 2, 1) := by decide +kernel
theorem dX12_apply_35 : decode cX12_apply 35 = .ok (.istore_n 3, 1) := by decide +kernel
theorem dX12_apply_36 : decode cX12_apply 36 = .ok (.aload_n 0, 1) := by decide +kernel
theorem dX12_apply_37 : decode cX12_apply 37 = .ok (.getfield 29, 3) := by decide +kernel
theorem dX12_apply_40 : decode cX12_apply 40 = .ok (.iload_n 3, 1) := by decide +kernel
theorem dX12_apply_41 : decode cX12_apply 41 = .ok (.iaload, 1) := by decide +kernel
theorem dX12_apply_42 : decode cX12_apply 42 = .ok (.istore 4, 2) := by decide +kernel
theorem dX12_apply_44 : decode cX12_apply 44 = .ok (.iload 4, 2) := by decide +kernel
theorem dX12_apply_46 : decode cX12_apply 46 = .ok (.invokestatic 337, 3) := by decide +kernel
theorem dX12_apply_49 : decode cX12_apply 49 = .ok (.istore 5, 2) := by decide +kernel
theorem dX12_apply_51 : decode cX12_apply 51 = .ok (.iload 4, 2) := by decide +kernel
theorem dX12_apply_53 : decode cX12_apply 53 = .ok (.ifCond .ne 10, 3) := by decide +kernel
theorem dX12_apply_56 : decode cX12_apply 56 = .ok (.iload_n 3, 1) := by decide +kernel
theorem dX12_apply_57 : decode cX12_apply 57 = .ok (.invokestatic 303, 3) := by decide +kernel
theorem dX12_apply_60 : decode cX12_apply 60 = .ok (.goto 9, 3) := by decide +kernel
theorem dX12_apply_63 : decode cX12_apply 63 = .ok (.aload_n 0, 1) := by decide +kernel
theorem dX12_apply_64 : decode cX12_apply 64 = .ok (.getfield 32, 3) := by decide +kernel
theorem dX12_apply_67 : decode cX12_apply 67 = .ok (.iload_n 3, 1) := by decide +kernel
theorem dX12_apply_68 : decode cX12_apply 68 = .ok (.iaload, 1) := by decide +kernel
theorem dX12_apply_69 : decode cX12_apply 69 = .ok (.istore 6, 2) := by decide +kernel
theorem dX12_apply_71 : decode cX12_apply 71 = .ok (.aload_n 0, 1) := by decide +kernel
theorem dX12_apply_72 : decode cX12_apply 72 = .ok (.getfield 71, 3) := by decide +kernel
theorem dX12_apply_75 : decode cX12_apply 75 = .ok (.iload_n 1, 1) := by decide +kernel
theorem dX12_apply_76 : decode cX12_apply 76 = .ok (.iaload, 1) := by decide +kernel
theorem dX12_apply_77 : decode cX12_apply 77 = .ok (.istore 7, 2) := by decide +kernel
theorem dX12_apply_79 : decode cX12_apply 79 = .ok (.iconst 0, 1) := by decide +kernel
theorem dX12_apply_80 : decode cX12_apply 80 = .ok (.istore 8, 2) := by decide +kernel
theorem dX12_apply_82 : decode cX12_apply 82 = .ok (.iload 5, 2) := by decide +kernel
theorem dX12_apply_84 : decode cX12_apply 84 = .ok (.ifCond .eq 74, 3) := by decide +kernel
theorem dX12_apply_87 : decode cX12_apply 87 = .ok (.aload_n 0, 1) := by decide +kernel
theorem dX12_apply_88 : decode cX12_apply 88 = .ok (.iload_n 1, 1) := by decide +kernel
theorem dX12_apply_89 : decode cX12_apply 89 = .ok (.iload 7, 2) := by decide +kernel
theorem dX12_apply_91 : decode cX12_apply 91 = .ok (.iload 6, 2) := by decide +kernel
theorem dX12_apply_93 : decode cX12_apply 93 = .ok (.aload_n 0, 1) := by decide +kernel
theorem dX12_apply_94 : decode cX12_apply 94 = .ok (.getfield 35, 3) := by decide +kernel
theorem dX12_apply_97 : decode cX12_apply 97 = .ok (.iload_n 3, 1) := by decide +kernel
theorem dX12_apply_98 : decode cX12_apply 98 = .ok (.iaload, 1) := by decide +kernel
theorem dX12_apply_99 : decode cX12_apply 99 = .ok (.invokevirtual 340, 3) := by decide +kernel
theorem dX12_apply_102 : decode cX12_apply 102 = .ok (.aload_n 0, 1) := by decide +kernel
theorem dX12_apply_103 : decode cX12_apply 103 = .ok (.aload_n 0, 1) := by decide +kernel
theorem dX12_apply_104 : decode cX12_apply 104 = .ok (.getfield 253, 3) := by decide +kernel
theorem dX12_apply_107 : decode cX12_apply 107 = .ok (.putfield 343, 3) := by decide +kernel
theorem dX12_apply_110 : decode cX12_apply 110 = .ok (.iconst 0, 1) := by decide +kernel
theorem dX12_apply_111 : decode cX12_apply 111 = .ok (.istore 9, 2) := by decide +kernel
theorem dX12_apply_113 : decode cX12_apply 113 = .ok (.iload 9, 2) := by decide +kernel
theorem dX12_apply_115 : decode cX12_apply 115 = .ok (.aload_n 0, 1) := by decide +kernel
theorem dX12_apply_116 : decode cX12_apply 116 = .ok (.getfield 253, 3) := by decide +kernel
theorem dX12_apply_119 : decode cX12_apply 119 = .ok (.if_icmp .ge 36, 3) := by decide +kernel
theorem dX12_apply_122 : decode cX12_apply 122 = .ok (.aload_n 0, 1) := by decide +kernel
theorem dX12_apply_123 : decode cX12_apply 123 = .ok (.getfield 160, 3) := by decide +kernel
theorem dX12_apply_126 : decode cX12_apply 126 = .ok (.iload 9, 2) := by decide +kernel
theorem dX12_apply_128 : decode cX12_apply 128 = .ok (.aload_n 0, 1) := by decide +kernel
theorem dX12_apply_129 : decode cX12_apply 129 = .ok (.getfield 139, 3) := by decide +kernel
theorem dX12_apply_132 : decode cX12_apply 132 = .ok (.iload 9, 2) := by decide +kernel
theorem dX12_apply_134 : decode cX12_apply 134 = .ok (.iaload, 1) := by decide +kernel
theorem dX12_apply_135 : decode cX12_apply 135 = .ok (.iastore, 1) := by decide +kernel
theorem dX12_apply_136 : decode cX12_apply 136 = .ok (.aload_n 0, 1) := by decide +kernel
theorem dX12_apply_137 : decode cX12_apply 137 = .ok (.getfield 163, 3) := by decide +kernel
theorem dX12_apply_140 : decode cX12_apply 140 = .ok (.iload 9, 2) := by decide +kernel
theorem dX12_apply_142 : decode cX12_apply 142 = .ok (.aload_n 0, 1) := by decide +kernel
theorem dX12_apply_143 : decode cX12_apply 143 = .ok (.iload 9, 2) := by decide +kernel
theorem dX12_apply_145 : decode cX12_apply 145 = .ok (.invokevirtual 346, 3) := by decide +kernel
theorem dX12_apply_148 : decode cX12_apply 148 = .ok (.iastore, 1) := by decide +kernel
theorem dX12_apply_149 : decode cX12_apply 149 = .ok (.iinc 9 1, 3) := by decide +kernel
theorem dX12_apply_152 : decode cX12_apply 152 = .ok (.goto (-39), 3) := by decide +kernel
theorem dX12_apply_155 : decode cX12_apply 155 = .ok (.goto 63, 3) := by decide +kernel
theorem dX12_apply_158 : decode cX12_apply 158 = .ok (.iload 4, 2) := by decide +kernel
theorem dX12_apply_160 : decode cX12_apply 160 = .ok (.bipush 11, 2) := by decide +kernel
theorem dX12_apply_162 : decode cX12_apply 162 = .ok (.if_icmp .ne 45, 3) := by decide +kernel
theorem dX12_apply_165 : decode cX12_apply 165 = .ok (.aload_n 0, 1) := by decide +kernel
theorem dX12_apply_166 : decode cX12_apply 166 = .ok (.iload_n 1, 1) := by decide +kernel
theorem dX12_apply_167 : decode cX12_apply 167 = .ok (.iload 7, 2) := by decide +kernel
theorem dX12_apply_169 : decode cX12_apply 169 = .ok (.invokevirtual 324, 3) := by decide +kernel
theorem dX12_apply_172 : decode cX12_apply 172 = .ok (.iconst 0, 1) := by decide +kernel
theorem dX12_apply_173 : decode cX12_apply 173 = .ok (.istore 9, 2) := by decide +kernel
theorem dX12_apply_175 : decode cX12_apply 175 = .ok (.iload 9, 2) := by decide +kernel
theorem dX12_apply_177 : decode cX12_apply 177 = .ok (.aload_n 0, 1) := by decide +kernel
theorem dX12_apply_178 : decode cX12_apply 178 = .ok (.getfield 309, 3) := by decide +kernel
theorem dX12_apply_181 : decode cX12_apply 181 = .ok (.if_icmp .ge 23, 3) := by decide +kernel
theorem dX12_apply_184 : decode cX12_apply 184 = .ok (.aload_n 0, 1) := by decide +kernel
theorem dX12_apply_185 : decode cX12_apply 185 = .ok (.getfield 166, 3) := by decide +kernel
theorem dX12_apply_188 : decode cX12_apply 188 = .ok (.iload 9, 2) := by decide +kernel
theorem dX12_apply_190 : decode cX12_apply 190 = .ok (.aload_n 0, 1) := by decide +kernel
theorem dX12_apply_191 : decode cX12_apply 191 = .ok (.getfield 151, 3) := by decide +kernel
theorem dX12_apply_194 : decode cX12_apply 194 = .ok (.iload 9, 2) := by decide +kernel
theorem dX12_apply_196 : decode cX12_apply 196 = .ok (.iaload, 1) := by decide +kernel
theorem dX12_apply_197 : decode cX12_apply 197 = .ok (.iastore, 1) := by decide +kernel
theorem dX12_apply_198 : decode cX12_apply 198 = .ok (.iinc 9 1, 3) := by decide +kernel
theorem dX12_apply_201 : decode cX12_apply 201 = .ok (.goto (-26), 3) := by decide +kernel
theorem dX12_apply_204 : decode cX12_apply 204 = .ok (.goto 14, 3) := by decide +kernel
theorem dX12_apply_207 : decode cX12_apply 207 = .ok (.aload_n 0, 1) := by decide +kernel
theorem dX12_apply_208 : decode cX12_apply 208 = .ok (.iload_n 1, 1) := by decide +kernel
theorem dX12_apply_209 : decode cX12_apply 209 = .ok (.iload 6, 2) := by decide +kernel
theorem dX12_apply_211 : decode cX12_apply 211 = .ok (.iload 7, 2) := by decide +kernel
theorem dX12_apply_213 : decode cX12_apply 213 = .ok (.invokevirtual 247, 3) := by decide +kernel
theorem dX12_apply_216 : decode cX12_apply 216 = .ok (.istore 8, 2) := by decide +kernel
theorem dX12_apply_218 : decode cX12_apply 218 = .ok (.aload_n 0, 1) := by decide +kernel
theorem dX12_apply_219 : decode cX12_apply 219 = .ok (.iload_n 1, 1) := by decide +kernel
theorem dX12_apply_220 : decode cX12_apply 220 = .ok (.invokevirtual 349, 3) := by decide +kernel
theorem dX12_apply_223 : decode cX12_apply 223 = .ok (.aload_n 0, 1) := by decide +kernel
theorem dX12_apply_224 : decode cX12_apply 224 = .ok (.getfield 74, 3) := by decide +kernel
theorem dX12_apply_227 : decode cX12_apply 227 = .ok (.sipush 1000, 3) := by decide +kernel
theorem dX12_apply_230 : decode cX12_apply 230 = .ok (.iload_n 1, 1) := by decide +kernel
theorem dX12_apply_231 : decode cX12_apply 231 = .ok (.imul, 1) := by decide +kernel
theorem dX12_apply_232 : decode cX12_apply 232 = .ok (.iload 7, 2) := by decide +kernel
theorem dX12_apply_234 : decode cX12_apply 234 = .ok (.iadd, 1) := by decide +kernel
theorem dX12_apply_235 : decode cX12_apply 235 = .ok (.iload_n 2, 1) := by decide +kernel
theorem dX12_apply_236 : decode cX12_apply 236 = .ok (.iastore, 1) := by decide +kernel
theorem dX12_apply_237 : decode cX12_apply 237 = .ok (.aload_n 0, 1) := by decide +kernel
theorem dX12_apply_238 : decode cX12_apply 238 = .ok (.getfield 71, 3) := by decide +kernel
theorem dX12_apply_241 : decode cX12_apply 241 = .ok (.iload_n 1, 1) := by decide +kernel
theorem dX12_apply_242 : decode cX12_apply 242 = .ok (.dup2, 1) := by decide +kernel
theorem dX12_apply_243 : decode cX12_apply 243 = .ok (.iaload, 1) := by decide +kernel
theorem dX12_apply_244 : decode cX12_apply 244 = .ok (.iconst 1, 1) := by decide +kernel
theorem dX12_apply_245 : decode cX12_apply 245 = .ok (.iadd, 1) := by decide +kernel
theorem dX12_apply_246 : decode cX12_apply 246 = .ok (.iastore, 1) := by decide +kernel
theorem dX12_apply_247 : decode cX12_apply 247 = .ok (.aload_n 0, 1) := by decide +kernel
theorem dX12_apply_248 : decode cX12_apply 248 = .ok (.getfield 62, 3) := by decide +kernel
theorem dX12_apply_251 : decode cX12_apply 251 = .ok (.iconst 4, 1) := by decide +kernel
theorem dX12_apply_252 : decode cX12_apply 252 = .ok (.iload_n 1, 1) := by decide +kernel
theorem dX12_apply_253 : decode cX12_apply 253 = .ok (.imul, 1) := by decide +kernel
theorem dX12_apply_254 : decode cX12_apply 254 = .ok (.iload_n 2, 1) := by decide +kernel
theorem dX12_apply_255 : decode cX12_apply 255 = .ok (.invokestatic 219, 3) := by decide +kernel
theorem dX12_apply_258 : decode cX12_apply 258 = .ok (.iadd, 1) := by decide +kernel
theorem dX12_apply_259 : decode cX12_apply 259 = .ok (.iload_n 2, 1) := by decide +kernel
theorem dX12_apply_260 : decode cX12_apply 260 = .ok (.invokestatic 223, 3) := by decide +kernel
theorem dX12_apply_263 : decode cX12_apply 263 = .ok (.iastore, 1) := by decide +kernel
theorem dX12_apply_264 : decode cX12_apply 264 = .ok (.aload_n 0, 1) := by decide +kernel
theorem dX12_apply_265 : decode cX12_apply 265 = .ok (.getfield 44, 3) := by decide +kernel
theorem dX12_apply_268 : decode cX12_apply 268 = .ok (.iload_n 2, 1) := by decide +kernel
theorem dX12_apply_269 : decode cX12_apply 269 = .ok (.iaload, 1) := by decide +kernel
theorem dX12_apply_270 : decode cX12_apply 270 = .ok (.aload_n 0, 1) := by decide +kernel
theorem dX12_apply_271 : decode cX12_apply 271 = .ok (.getfield 56, 3) := by decide +kernel
theorem dX12_apply_274 : decode cX12_apply 274 = .ok (.iload_n 1, 1) := by decide +kernel
theorem dX12_apply_275 : decode cX12_apply 275 = .ok (.iaload, 1) := by decide +kernel
theorem dX12_apply_276 : decode cX12_apply 276 = .ok (.if_icmp .gt 33, 3) := by decide +kernel
theorem dX12_apply_279 : decode cX12_apply 279 = .ok (.aload_n 0, 1) := by decide +kernel
theorem dX12_apply_280 : decode cX12_apply 280 = .ok (.getfield 44, 3) := by decide +kernel
theorem dX12_apply_283 : decode cX12_apply 283 = .ok (.iload_n 2, 1) := by decide +kernel
theorem dX12_apply_284 : decode cX12_apply 284 = .ok (.iaload, 1) := by decide +kernel
theorem dX12_apply_285 : decode cX12_apply 285 = .ok (.aload_n 0, 1) := by decide +kernel
theorem dX12_apply_286 : decode cX12_apply 286 = .ok (.getfield 56, 3) := by decide +kernel
theorem dX12_apply_289 : decode cX12_apply 289 = .ok (.iload_n 1, 1) := by decide +kernel
theorem dX12_apply_290 : decode cX12_apply 290 = .ok (.iaload, 1) := by decide +kernel
theorem dX12_apply_291 : decode cX12_apply 291 = .ok (.if_icmp .ne 42, 3) := by decide +kernel
theorem dX12_apply_294 : decode cX12_apply 294 = .ok (.aload_n 0, 1) := by decide +kernel
theorem dX12_apply_295 : decode cX12_apply 295 = .ok (.getfield 47, 3) := by decide +kernel
theorem dX12_apply_298 : decode cX12_apply 298 = .ok (.iload_n 2, 1) := by decide +kernel
theorem dX12_apply_299 : decode cX12_apply 299 = .ok (.iaload, 1) := by decide +kernel
theorem dX12_apply_300 : decode cX12_apply 300 = .ok (.aload_n 0, 1) := by decide +kernel
theorem dX12_apply_301 : decode cX12_apply 301 = .ok (.getfield 59, 3) := by decide +kernel
theorem dX12_apply_304 : decode cX12_apply 304 = .ok (.iload_n 1, 1) := by decide +kernel
theorem dX12_apply_305 : decode cX12_apply 305 = .ok (.iaload, 1) := by decide +kernel
theorem dX12_apply_306 : decode cX12_apply 306 = .ok (.if_icmp .le 27, 3) := by decide +kernel
theorem dX12_apply_309 : decode cX12_apply 309 = .ok (.aload_n 0, 1) := by decide +kernel
theorem dX12_apply_310 : decode cX12_apply 310 = .ok (.getfield 56, 3) := by decide +kernel
theorem dX12_apply_313 : decode cX12_apply 313 = .ok (.iload_n 1, 1) := by decide +kernel
theorem dX12_apply_314 : decode cX12_apply 314 = .ok (.aload_n 0, 1) := by decide +kernel
theorem dX12_apply_315 : decode cX12_apply 315 = .ok (.getfield 44, 3) := by decide +kernel
theorem dX12_apply_318 : decode cX12_apply 318 = .ok (.iload_n 2, 1) := by decide +kernel
theorem dX12_apply_319 : decode cX12_apply 319 = .ok (.iaload, 1) := by decide +kernel
theorem dX12_apply_320 : decode cX12_apply 320 = .ok (.iastore, 1) := by decide +kernel
theorem dX12_apply_321 : decode cX12_apply 321 = .ok (.aload_n 0, 1) := by decide +kernel
theorem dX12_apply_322 : decode cX12_apply 322 = .ok (.getfield 59, 3) := by decide +kernel
theorem dX12_apply_325 : decode cX12_apply 325 = .ok (.iload_n 1, 1) := by decide +kernel
theorem dX12_apply_326 : decode cX12_apply 326 = .ok (.aload_n 0, 1) := by decide +kernel
theorem dX12_apply_327 : decode cX12_apply 327 = .ok (.getfield 47, 3) := by decide +kernel
theorem dX12_apply_330 : decode cX12_apply 330 = .ok (.iload_n 2, 1) := by decide +kernel
theorem dX12_apply_331 : decode cX12_apply 331 = .ok (.iaload, 1) := by decide +kernel
theorem dX12_apply_332 : decode cX12_apply 332 = .ok (.iastore, 1) := by decide +kernel
theorem dX12_apply_333 : decode cX12_apply 333 = .ok (.aload_n 0, 1) := by decide +kernel
theorem dX12_apply_334 : decode cX12_apply 334 = .ok (.iload_n 1, 1) := by decide +kernel
theorem dX12_apply_335 : decode cX12_apply 335 = .ok (.iload_n 2, 1) := by decide +kernel
theorem dX12_apply_336 : decode cX12_apply 336 = .ok (.invokevirtual 353, 3) := by decide +kernel
theorem dX12_apply_339 : decode cX12_apply 339 = .ok (.iload 5, 2) := by decide +kernel
theorem dX12_apply_341 : decode cX12_apply 341 = .ok (.ifCond .eq 123, 3) := by decide +kernel
theorem dX12_apply_344 : decode cX12_apply 344 = .ok (.aload_n 0, 1) := by decide +kernel
theorem dX12_apply_345 : decode cX12_apply 345 = .ok (.iload_n 1, 1) := by decide +kernel
theorem dX12_apply_346 : decode cX12_apply 346 = .ok (.iload 7, 2) := by decide +kernel
theorem dX12_apply_348 : decode cX12_apply 348 = .ok (.iconst 1, 1) := by decide +kernel
theorem dX12_apply_349 : decode cX12_apply 349 = .ok (.iadd, 1) := by decide +kernel
theorem dX12_apply_350 : decode cX12_apply 350 = .ok (.iload 6, 2) := by decide +kernel
theorem dX12_apply_352 : decode cX12_apply 352 = .ok (.aload_n 0, 1) := by decide +kernel
theorem dX12_apply_353 : decode cX12_apply 353 = .ok (.getfield 35, 3) := by decide +kernel
theorem dX12_apply_356 : decode cX12_apply 356 = .ok (.iload_n 3, 1) := by decide +kernel
theorem dX12_apply_357 : decode cX12_apply 357 = .ok (.iaload, 1) := by decide +kernel
theorem dX12_apply_358 : decode cX12_apply 358 = .ok (.invokevirtual 340, 3) := by decide +kernel
theorem dX12_apply_361 : decode cX12_apply 361 = .ok (.aload_n 0, 1) := by decide +kernel
theorem dX12_apply_362 : decode cX12_apply 362 = .ok (.getfield 253, 3) := by decide +kernel
theorem dX12_apply_365 : decode cX12_apply 365 = .ok (.aload_n 0, 1) := by decide +kernel
theorem dX12_apply_366 : decode cX12_apply 366 = .ok (.getfield 343, 3) := by decide +kernel
theorem dX12_apply_369 : decode cX12_apply 369 = .ok (.if_icmp .ne 7, 3) := by decide +kernel
theorem dX12_apply_372 : decode cX12_apply 372 = .ok (.iconst 1, 1) := by decide +kernel
theorem dX12_apply_373 : decode cX12_apply 373 = .ok (.goto 4, 3) := by decide +kernel
theorem dX12_apply_376 : decode cX12_apply 376 = .ok (.iconst 0, 1) := by decide +kernel
theorem dX12_apply_377 : decode cX12_apply 377 = .ok (.istore 9, 2) := by decide +kernel
theorem dX12_apply_379 : decode cX12_apply 379 = .ok (.iconst 0, 1) := by decide +kernel
theorem dX12_apply_380 : decode cX12_apply 380 = .ok (.istore 10, 2) := by decide +kernel
theorem dX12_apply_382 : decode cX12_apply 382 = .ok (.iload 10, 2) := by decide +kernel
theorem dX12_apply_384 : decode cX12_apply 384 = .ok (.aload_n 0, 1) := by decide +kernel
theorem dX12_apply_385 : decode cX12_apply 385 = .ok (.getfield 253, 3) := by decide +kernel
theorem dX12_apply_388 : decode cX12_apply 388 = .ok (.if_icmp .ge 54, 3) := by decide +kernel
theorem dX12_apply_391 : decode cX12_apply 391 = .ok (.iload 9, 2) := by decide +kernel
theorem dX12_apply_393 : decode cX12_apply 393 = .ok (.ifCond .eq 49, 3) := by decide +kernel
theorem dX12_apply_396 : decode cX12_apply 396 = .ok (.aload_n 0, 1) := by decide +kernel
theorem dX12_apply_397 : decode cX12_apply 397 = .ok (.getfield 160, 3) := by decide +kernel
theorem dX12_apply_400 : decode cX12_apply 400 = .ok (.iload 10, 2) := by decide +kernel
theorem dX12_apply_402 : decode cX12_apply 402 = .ok (.iaload, 1) := by decide +kernel
theorem dX12_apply_403 : decode cX12_apply 403 = .ok (.aload_n 0, 1) := by decide +kernel
theorem dX12_apply_404 : decode cX12_apply 404 = .ok (.getfield 139, 3) := by decide +kernel
theorem dX12_apply_407 : decode cX12_apply 407 = .ok (.iload 10, 2) := by decide +kernel
theorem dX12_apply_409 : decode cX12_apply 409 = .ok (.iaload, 1) := by decide +kernel
theorem dX12_apply_410 : decode cX12_apply 410 = .ok (.if_icmp .ne 23, 3) := by decide +kernel
theorem dX12_apply_413 : decode cX12_apply 413 = .ok (.aload_n 0, 1) := by decide +kernel
theorem dX12_apply_414 : decode cX12_apply 414 = .ok (.getfield 163, 3) := by decide +kernel
theorem dX12_apply_417 : decode cX12_apply 417 = .ok (.iload 10, 2) := by decide +kernel
theorem dX12_apply_419 : decode cX12_apply 419 = .ok (.iaload, 1) := by decide +kernel
theorem dX12_apply_420 : decode cX12_apply 420 = .ok (.aload_n 0, 1) := by decide +kernel
theorem dX12_apply_421 : decode cX12_apply 421 = .ok (.iload 10, 2) := by decide +kernel
theorem dX12_apply_423 : decode cX12_apply 423 = .ok (.invokevirtual 346, 3) := by decide +kernel
theorem dX12_apply_426 : decode cX12_apply 426 = .ok (.if_icmp .ne 7, 3) := by decide +kernel
theorem dX12_apply_429 : decode cX12_apply 429 = .ok (.iconst 1, 1) := by decide +kernel
theorem dX12_apply_430 : decode cX12_apply 430 = .ok (.goto 4, 3) := by decide +kernel
theorem dX12_apply_433 : decode cX12_apply 433 = .ok (.iconst 0, 1) := by decide +kernel
theorem dX12_apply_434 : decode cX12_apply 434 = .ok (.istore 9, 2) := by decide +kernel
theorem dX12_apply_436 : decode cX12_apply 436 = .ok (.iinc 10 1, 3) := by decide +kernel
theorem dX12_apply_439 : decode cX12_apply 439 = .ok (.goto (-57), 3) := by decide +kernel
theorem dX12_apply_442 : decode cX12_apply 442 = .ok (.iload 9, 2) := by decide +kernel
theorem dX12_apply_444 : decode cX12_apply 444 = .ok (.ifCond .ne 17, 3) := by decide +kernel
theorem dX12_apply_447 : decode cX12_apply 447 = .ok (.aload_n 0, 1) := by decide +kernel
theorem dX12_apply_448 : decode cX12_apply 448 = .ok (.iload_n 1, 1) := by decide +kernel
theorem dX12_apply_449 : decode cX12_apply 449 = .ok (.iload_n 2, 1) := by decide +kernel
theorem dX12_apply_450 : decode cX12_apply 450 = .ok (.iload 6, 2) := by decide +kernel
theorem dX12_apply_452 : decode cX12_apply 452 = .ok (.aload_n 0, 1) := by decide +kernel
theorem dX12_apply_453 : decode cX12_apply 453 = .ok (.getfield 35, 3) := by decide +kernel
theorem dX12_apply_456 : decode cX12_apply 456 = .ok (.iload_n 3, 1) := by decide +kernel
theorem dX12_apply_457 : decode cX12_apply 457 = .ok (.iaload, 1) := by decide +kernel
theorem dX12_apply_458 : decode cX12_apply 458 = .ok (.invokevirtual 356, 3) := by decide +kernel
theorem dX12_apply_461 : decode cX12_apply 461 = .ok (.goto 98, 3) := by decide +kernel
theorem dX12_apply_464 : decode cX12_apply 464 = .ok (.iload 4, 2) := by decide +kernel
theorem dX12_apply_466 : decode cX12_apply 466 = .ok (.bipush 11, 2) := by decide +kernel
theorem dX12_apply_468 : decode cX12_apply 468 = .ok (.if_icmp .ne 65, 3) := by decide +kernel
theorem dX12_apply_471 : decode cX12_apply 471 = .ok (.aload_n 0, 1) := by decide +kernel
theorem dX12_apply_472 : decode cX12_apply 472 = .ok (.iload_n 1, 1) := by decide +kernel
theorem dX12_apply_473 : decode cX12_apply 473 = .ok (.iload 7, 2) := by decide +kernel
theorem dX12_apply_475 : decode cX12_apply 475 = .ok (.iconst 1, 1) := by decide +kernel
theorem dX12_apply_476 : decode cX12_apply 476 = .ok (.iadd, 1) := by decide +kernel
theorem dX12_apply_477 : decode cX12_apply 477 = .ok (.invokevirtual 324, 3) := by decide +kernel
theorem dX12_apply_480 : decode cX12_apply 480 = .ok (.iconst 0, 1) := by decide +kernel
theorem dX12_apply_481 : decode cX12_apply 481 = .ok (.istore 9, 2) := by decide +kernel
theorem dX12_apply_483 : decode cX12_apply 483 = .ok (.iload 9, 2) := by decide +kernel
theorem dX12_apply_485 : decode cX12_apply 485 = .ok (.aload_n 0, 1) := by decide +kernel
theorem dX12_apply_486 : decode cX12_apply 486 = .ok (.getfield 309, 3) := by decide +kernel
theorem dX12_apply_489 : decode cX12_apply 489 = .ok (.if_icmp .ge 41, 3) := by decide +kernel
theorem dX12_apply_492 : decode cX12_apply 492 = .ok (.aload_n 0, 1) := by decide +kernel
theorem dX12_apply_493 : decode cX12_apply 493 = .ok (.getfield 166, 3) := by decide +kernel
theorem dX12_apply_496 : decode cX12_apply 496 = .ok (.iload 9, 2) := by decide +kernel
theorem dX12_apply_498 : decode cX12_apply 498 = .ok (.iaload, 1) := by decide +kernel
theorem dX12_apply_499 : decode cX12_apply 499 = .ok (.aload_n 0, 1) := by decide +kernel
theorem dX12_apply_500 : decode cX12_apply 500 = .ok (.getfield 151, 3) := by decide +kernel
theorem dX12_apply_503 : decode cX12_apply 503 = .ok (.iload 9, 2) := by decide +kernel
theorem dX12_apply_505 : decode cX12_apply 505 = .ok (.iaload, 1) := by decide +kernel
theorem dX12_apply_506 : decode cX12_apply 506 = .ok (.if_icmp .eq 18, 3) := by decide +kernel
theorem dX12_apply_509 : decode cX12_apply 509 = .ok (.aload_n 0, 1) := by decide +kernel
theorem dX12_apply_510 : decode cX12_apply 510 = .ok (.iload_n 1, 1) := by decide +kernel
theorem dX12_apply_511 : decode cX12_apply 511 = .ok (.iload_n 2, 1) := by decide +kernel
theorem dX12_apply_512 : decode cX12_apply 512 = .ok (.aload_n 0, 1) := by decide +kernel
theorem dX12_apply_513 : decode cX12_apply 513 = .ok (.getfield 148, 3) := by decide +kernel
theorem dX12_apply_516 : decode cX12_apply 516 = .ok (.iload 9, 2) := by decide +kernel
theorem dX12_apply_518 : decode cX12_apply 518 = .ok (.iaload, 1) := by decide +kernel
theorem dX12_apply_519 : decode cX12_apply 519 = .ok (.bipush 6, 2) := by decide +kernel
theorem dX12_apply_521 : decode cX12_apply 521 = .ok (.invokevirtual 356, 3) := by decide +kernel
theorem dX12_apply_524 : decode cX12_apply 524 = .ok (.iinc 9 1, 3) := by decide +kernel
theorem dX12_apply_527 : decode cX12_apply 527 = .ok (.goto (-44), 3) := by decide +kernel
theorem dX12_apply_530 : decode cX12_apply 530 = .ok (.goto 29, 3) := by decide +kernel
theorem dX12_apply_533 : decode cX12_apply 533 = .ok (.iload 8, 2) := by decide +kernel
theorem dX12_apply_535 : decode cX12_apply 535 = .ok (.aload_n 0, 1) := by decide +kernel
theorem dX12_apply_536 : decode cX12_apply 536 = .ok (.iload_n 1, 1) := by decide +kernel
theorem dX12_apply_537 : decode cX12_apply 537 = .ok (.iload 6, 2) := by decide +kernel
theorem dX12_apply_539 : decode cX12_apply 539 = .ok (.iload 7, 2) := by decide +kernel
theorem dX12_apply_541 : decode cX12_apply 541 = .ok (.iconst 1, 1) := by decide +kernel
theorem dX12_apply_542 : decode cX12_apply 542 = .ok (.iadd, 1) := by decide +kernel
theorem dX12_apply_543 : decode cX12_apply 543 = .ok (.invokevirtual 247, 3) := by decide +kernel
theorem dX12_apply_546 : decode cX12_apply 546 = .ok (.if_icmp .eq 13, 3) := by decide +kernel
theorem dX12_apply_549 : decode cX12_apply 549 = .ok (.aload_n 0, 1) := by decide +kernel
theorem dX12_apply_550 : decode cX12_apply 550 = .ok (.iload_n 1, 1) := by decide +kernel
theorem dX12_apply_551 : decode cX12_apply 551 = .ok (.iload_n 2, 1) := by decide +kernel
theorem dX12_apply_552 : decode cX12_apply 552 = .ok (.iload 6, 2) := by decide +kernel
theorem dX12_apply_554 : decode cX12_apply 554 = .ok (.bipush 7, 2) := by decide +kernel
theorem dX12_apply_556 : decode cX12_apply 556 = .ok (.invokevirtual 356, 3) := by decide +kernel
theorem dX12_apply_559 : decode cX12_apply 559 = .ok (.aload_n 0, 1) := by decide +kernel
theorem dX12_apply_560 : decode cX12_apply 560 = .ok (.iload_n 1, 1) := by decide +kernel
theorem dX12_apply_561 : decode cX12_apply 561 = .ok (.iload_n 2, 1) := by decide +kernel
theorem dX12_apply_562 : decode cX12_apply 562 = .ok (.invokevirtual 359, 3) := by decide +kernel
theorem dX12_apply_565 : decode cX12_apply 565 = .ok (.return_, 1) := by decide +kernel
theorem cd_apply : Cond.code yX12_apply cX12_apply 11 none ∈ lw_g := mt_at 2123 (by decide +kernel) rfl
theorem mw_apply : mCw 412 yX12_apply cX12_apply 11 none 2 := ⟨cd_apply, mt_at 2120 (by decide +kernel) rfl, in_M, by decide +kernel⟩
theorem im_apply : Cond.instanceMethod yX12_apply ∈ lw_g := mt_at 2122 (by decide +kernel) rfl
theorem sl_apply : Cond.selects RX12 yX12_apply yX12_apply ∈ lw_g := mt_sel 76 (by decide +kernel) rfl
section
variable {p : Program} {l : Launch} {e : Env} {R : Room} {s : State} {m : MethodId} {args : Array Value} {below : List Frame} {meth : Method} {c : Code} {cM : ClassId} {iS : Nat → Nat} {cI cZ : ClassId} {mo : Nat} {ad : Nat → Nat} {r : Int32} {S9 : mSt}
noncomputable def fm_apply_559 (S : mSt) (v1 : Int32) (v2 : Int32) : Option (mSt) :=
bd (fm_tellLists S v1 v2) fun S1 =>
some S1
set_option maxRecDepth 100000 in
set_option maxHeartbeats 4000000 in
theorem wm_apply_559 (C : mY p R s m args meth c cX12_apply 11 8 194 none) (X : mX s cM iS cI cZ mo ad) : ∀ {S : mSt} {v1 : Int32} {v2 : Int32} {H : Heap} {locs : List Loc} {ls : Array Slot}, fm_apply_559 S v1 v2 = some S9 → mW cM iS cI cZ mo ad S H → mS (mA mo ad) s.heap H locs → lv_has ls 11 [(0, .ref mo), (1, .int v1), (2, .int v2)] → W p l e R s m args below meth c H locs 0 0 (MQ below (mQw none cM iS cI cZ mo ad S9) args s 0 0 (mA mo ad)) (F0 m 559 ls []) := by
  intro S v1 v2 H locs ls h hW hS hl
  unfold fm_apply_559 at h
  refine lv_aload_n C.1 C.2.1 dX12_apply_559 rfl (lv_at hl 0 rfl) ?_
  refine lv_iload_n C.1 C.2.1 dX12_apply_560 rfl (lv_at hl 1 rfl) ?_
  refine lv_iload_n C.1 C.2.1 dX12_apply_561 rfl (lv_at hl 2 rfl) ?_
  obtain ⟨S1, h_S1, h⟩ := bd_ok h
  refine m_callW (rest := []) (ov := none) C X hW hS hl.1 [.int v1, .int v2] (tm_tellLists l h_S1) mw_tellLists im_tellLists sl_tellLists rfl ⟨by decide, by decide⟩ rfl (Nat.le_of_ble_eq_true rfl) dX12_apply_562 (fun H locs hW hS => ?_)
  refine W.eq (g2 := F0 m 565 ls []) rfl ?_
  cases h
  exact m_retvW C hW hS dX12_apply_565
noncomputable def fm_apply_524 (g_483 : mSt → Int32 → Int32 → Int32 → Option (mSt)) (S : mSt) (v1 : Int32) (v2 : Int32) (v9 : Int32) : Option (mSt) :=
lt (v9 + (1 : Int32)) fun x1 =>
g_483 S v1 v2 x1
set_option maxRecDepth 100000 in
set_option maxHeartbeats 4000000 in
theorem wm_apply_524 (C : mY p R s m args meth c cX12_apply 11 8 194 none) (X : mX s cM iS cI cZ mo ad) {g_483 : mSt → Int32 → Int32 → Int32 → Option (mSt)} (hg_483 : ∀ {S : mSt} {v1 : Int32} {v2 : Int32} {v9 : Int32} {H : Heap} {locs : List Loc} {ls : Array Slot}, g_483 S v1 v2 v9 = some S9 → mW cM iS cI cZ mo ad S H → mS (mA mo ad) s.heap H locs → lv_has ls 11 [(0, .ref mo), (1, .int v1), (2, .int v2), (9, .int v9)] → W p l e R s m args below meth c H locs 0 0 (MQ below (mQw none cM iS cI cZ mo ad S9) args s 0 0 (mA mo ad)) (F0 m 483 ls [])) : ∀ {S : mSt} {v1 : Int32} {v2 : Int32} {v9 : Int32} {H : Heap} {locs : List Loc} {ls : Array Slot}, fm_apply_524 g_483 S v1 v2 v9 = some S9 → mW cM iS cI cZ mo ad S H → mS (mA mo ad) s.heap H locs → lv_has ls 11 [(0, .ref mo), (1, .int v1), (2, .int v2), (9, .int v9)] → W p l e R s m args below meth c H locs 0 0 (MQ below (mQw none cM iS cI cZ mo ad S9) args s 0 0 (mA mo ad)) (F0 m 524 ls []) := by
  intro S v1 v2 v9 H locs ls h hW hS hl
  unfold fm_apply_524 at h
  refine lt_ok h (fun x1 e_x1 h => ?_)
  refine lv_iinc (v := x1) (lv' := [(9, .int x1), (0, .ref mo), (1, .int v1), (2, .int v2)]) C.1 C.2.1 dX12_apply_524 hl (k := 3) rfl (by rw [← e_x1]; rfl) (by decide) rfl (fun ls hl => ?_)
  refine lv_goto (tgt := 483) C.1 C.2.1 dX12_apply_527 (by decide) ?_
  exact hg_483 h hW hS (lv_sub hl [1, 2, 3, 0] rfl)
noncomputable def fm_apply_483 : Nat → mSt → Int32 → Int32 → Int32 → Option (mSt)
  | 0, _, _, _, _ => none
  | n + 1, S, v1, v2, v9 =>
    if (S.1 54) ≤ v9 then (
    fm_apply_559 S v1 v2)
    else (
    ck v9 48 (
    ck v9 48 (
    if (rd S 64 v9) = (rd S 56 v9) then (
    fm_apply_524 (fm_apply_483 n) S v1 v2 v9)
    else (
    ck v9 48 (
    bd (fm_tell S v1 v2 (rd S 55 v9) (6 : Int32)) fun S3 =>
    fm_apply_524 (fm_apply_483 n) S3 v1 v2 v9)))))
set_option maxRecDepth 100000 in
set_option maxHeartbeats 4000000 in
theorem wm_apply_483 (C : mY p R s m args meth c cX12_apply 11 8 194 none) (X : mX s cM iS cI cZ mo ad) : ∀ (n : Nat), ∀ {S : mSt} {v1 : Int32} {v2 : Int32} {v9 : Int32} {H : Heap} {locs : List Loc} {ls : Array Slot}, fm_apply_483 n S v1 v2 v9 = some S9 → mW cM iS cI cZ mo ad S H → mS (mA mo ad) s.heap H locs → lv_has ls 11 [(0, .ref mo), (1, .int v1), (2, .int v2), (9, .int v9)] → W p l e R s m args below meth c H locs 0 0 (MQ below (mQw none cM iS cI cZ mo ad S9) args s 0 0 (mA mo ad)) (F0 m 483 ls []) := by
  intro n
  induction n with
  | zero =>
    intro S v1 v2 v9 H locs ls h hW hS hl
    exact absurd (show (none : Option (mSt)) = _ from h) (fun q => by cases q)
  | succ n ih =>
    intro S v1 v2 v9 H locs ls h hW hS hl
    rw [fm_apply_483] at h
    refine lv_iload C.1 C.2.1 dX12_apply_483 (lv_at hl 3 rfl) ?_
    refine lv_aload_n C.1 C.2.1 dX12_apply_485 rfl (lv_at hl 0 rfl) ?_
    refine gf_54 C X hW dX12_apply_486 ?_
    refine lv_icmp_ge (tgt := 530) C.1 C.2.1 dX12_apply_489 (by decide) (fun c1 => ?_) (fun c1 => ?_)
    · have h := if_t h c1
      refine lv_goto (tgt := 559) C.1 C.2.1 dX12_apply_530 (by decide) ?_
      exact wm_apply_559 C X h hW hS (lv_sub hl [0, 1, 2] rfl)
    · have h := if_f h c1
      refine lv_aload_n C.1 C.2.1 dX12_apply_492 rfl (lv_at hl 0 rfl) ?_
      refine gf_64 C X hW dX12_apply_493 ?_
      refine lv_iload C.1 C.2.1 dX12_apply_496 (lv_at hl 3 rfl) ?_
      obtain ⟨hin, h⟩ := ck_ok h
      refine l_64 C X hW hin dX12_apply_498 ?_
      refine lv_aload_n C.1 C.2.1 dX12_apply_499 rfl (lv_at hl 0 rfl) ?_
      refine gf_56 C X hW dX12_apply_500 ?_
      refine lv_iload C.1 C.2.1 dX12_apply_503 (lv_at hl 3 rfl) ?_
      obtain ⟨hin, h⟩ := ck_ok h
      refine l_56 C X hW hin dX12_apply_505 ?_
      refine lv_icmp_eq (tgt := 524) C.1 C.2.1 dX12_apply_506 (by decide) (fun c2 => ?_) (fun c2 => ?_)
      · have h := if_t h c2
        exact wm_apply_524 C X ih h hW hS (lv_sub hl [0, 1, 2, 3] rfl)
      · have h := if_f h c2
        refine lv_aload_n C.1 C.2.1 dX12_apply_509 rfl (lv_at hl 0 rfl) ?_
        refine lv_iload_n C.1 C.2.1 dX12_apply_510 rfl (lv_at hl 1 rfl) ?_
        refine lv_iload_n C.1 C.2.1 dX12_apply_511 rfl (lv_at hl 2 rfl) ?_
        refine lv_aload_n C.1 C.2.1 dX12_apply_512 rfl (lv_at hl 0 rfl) ?_
        refine gf_55 C X hW dX12_apply_513 ?_
        refine lv_iload C.1 C.2.1 dX12_apply_516 (lv_at hl 3 rfl) ?_
        obtain ⟨hin, h⟩ := ck_ok h
        refine l_55 C X hW hin dX12_apply_518 ?_
        refine lv_bipush (v := 6) C.1 C.2.1 dX12_apply_519 (by decide) ?_
        obtain ⟨S3, h_S3, h⟩ := bd_ok h
        refine m_callW (rest := []) (ov := none) C X hW hS hl.1 [.int v1, .int v2, .int (rd S 55 v9), .int (6 : Int32)] (tm_tell l h_S3) mw_tell im_tell sl_tell rfl ⟨by decide, by decide⟩ rfl (Nat.le_of_ble_eq_true rfl) dX12_apply_521 (fun H locs hW hS => ?_)
        refine W.eq (g2 := F0 m 524 ls []) rfl ?_
        exact wm_apply_524 C X ih h hW hS (lv_sub hl [0, 1, 2, 3] rfl)
noncomputable def fm_apply_461 (S : mSt) (v1 : Int32) (v2 : Int32) : Option (mSt) :=
fm_apply_559 S v1 v2
set_option maxRecDepth 100000 in
set_option maxHeartbeats 4000000 in
theorem wm_apply_461 (C : mY p R s m args meth c cX12_apply 11 8 194 none) (X : mX s cM iS cI cZ mo ad) : ∀ {S : mSt} {v1 : Int32} {v2 : Int32} {H : Heap} {locs : List Loc} {ls : Array Slot}, fm_apply_461 S v1 v2 = some S9 → mW cM iS cI cZ mo ad S H → mS (mA mo ad) s.heap H locs → lv_has ls 11 [(0, .ref mo), (1, .int v1), (2, .int v2)] → W p l e R s m args below meth c H locs 0 0 (MQ below (mQw none cM iS cI cZ mo ad S9) args s 0 0 (mA mo ad)) (F0 m 461 ls []) := by
  intro S v1 v2 H locs ls h hW hS hl
  unfold fm_apply_461 at h
  refine lv_goto (tgt := 559) C.1 C.2.1 dX12_apply_461 (by decide) ?_
  exact wm_apply_559 C X h hW hS (lv_sub hl [0, 1, 2] rfl)
noncomputable def fm_apply_442 (S : mSt) (v1 : Int32) (v2 : Int32) (v3 : Int32) (v6 : Int32) (v9 : Int32) : Option (mSt) :=
if v9 = 0 then (
ck v3 1000 (
bd (fm_tell S v1 v2 v6 (rd S 11 v3)) fun S2 =>
fm_apply_461 S2 v1 v2))
else (
fm_apply_461 S v1 v2)
set_option maxRecDepth 100000 in
set_option maxHeartbeats 4000000 in
theorem wm_apply_442 (C : mY p R s m args meth c cX12_apply 11 8 194 none) (X : mX s cM iS cI cZ mo ad) : ∀ {S : mSt} {v1 : Int32} {v2 : Int32} {v3 : Int32} {v6 : Int32} {v9 : Int32} {H : Heap} {locs : List Loc} {ls : Array Slot}, fm_apply_442 S v1 v2 v3 v6 v9 = some S9 → mW cM iS cI cZ mo ad S H → mS (mA mo ad) s.heap H locs → lv_has ls 11 [(0, .ref mo), (1, .int v1), (2, .int v2), (3, .int v3), (6, .int v6), (9, .int v9)] → W p l e R s m args below meth c H locs 0 0 (MQ below (mQw none cM iS cI cZ mo ad S9) args s 0 0 (mA mo ad)) (F0 m 442 ls []) := by
  intro S v1 v2 v3 v6 v9 H locs ls h hW hS hl
  unfold fm_apply_442 at h
  refine lv_iload C.1 C.2.1 dX12_apply_442 (lv_at hl 5 rfl) ?_
  refine lv_if_ne (tgt := 461) C.1 C.2.1 dX12_apply_444 (by decide) (fun c1 => ?_) (fun c1 => ?_)
  · have h := if_f h c1
    exact wm_apply_461 C X h hW hS (lv_sub hl [0, 1, 2] rfl)
  · have h := if_t h c1
    refine lv_aload_n C.1 C.2.1 dX12_apply_447 rfl (lv_at hl 0 rfl) ?_
    refine lv_iload_n C.1 C.2.1 dX12_apply_448 rfl (lv_at hl 1 rfl) ?_
    refine lv_iload_n C.1 C.2.1 dX12_apply_449 rfl (lv_at hl 2 rfl) ?_
    refine lv_iload C.1 C.2.1 dX12_apply_450 (lv_at hl 4 rfl) ?_
    refine lv_aload_n C.1 C.2.1 dX12_apply_452 rfl (lv_at hl 0 rfl) ?_
    refine gf_11 C X hW dX12_apply_453 ?_
    refine lv_iload_n C.1 C.2.1 dX12_apply_456 rfl (lv_at hl 3 rfl) ?_
    obtain ⟨hin, h⟩ := ck_ok h
    refine l_11 C X hW hin dX12_apply_457 ?_
    obtain ⟨S2, h_S2, h⟩ := bd_ok h
    refine m_callW (rest := []) (ov := none) C X hW hS hl.1 [.int v1, .int v2, .int v6, .int (rd S 11 v3)] (tm_tell l h_S2) mw_tell im_tell sl_tell rfl ⟨by decide, by decide⟩ rfl (Nat.le_of_ble_eq_true rfl) dX12_apply_458 (fun H locs hW hS => ?_)
    refine W.eq (g2 := F0 m 461 ls []) rfl ?_
    exact wm_apply_461 C X h hW hS (lv_sub hl [0, 1, 2] rfl)
noncomputable def fm_apply_434 (g_382 : mSt → Int32 → Int32 → Int32 → Int32 → Int32 → Int32 → Option (mSt)) (S : mSt) (v1 : Int32) (v2 : Int32) (v3 : Int32) (v6 : Int32) (v10 : Int32) (s0 : Int32) : Option (mSt) :=
lt (v10 + (1 : Int32)) fun x1 =>
g_382 S v1 v2 v3 v6 s0 x1
set_option maxRecDepth 100000 in
set_option maxHeartbeats 4000000 in
theorem wm_apply_434 (C : mY p R s m args meth c cX12_apply 11 8 194 none) (X : mX s cM iS cI cZ mo ad) {g_382 : mSt → Int32 → Int32 → Int32 → Int32 → Int32 → Int32 → Option (mSt)} (hg_382 : ∀ {S : mSt} {v1 : Int32} {v2 : Int32} {v3 : Int32} {v6 : Int32} {v9 : Int32} {v10 : Int32} {H : Heap} {locs : List Loc} {ls : Array Slot}, g_382 S v1 v2 v3 v6 v9 v10 = some S9 → mW cM iS cI cZ mo ad S H → mS (mA mo ad) s.heap H locs → lv_has ls 11 [(0, .ref mo), (1, .int v1), (2, .int v2), (3, .int v3), (6, .int v6), (9, .int v9), (10, .int v10)] → W p l e R s m args below meth c H locs 0 0 (MQ below (mQw none cM iS cI cZ mo ad S9) args s 0 0 (mA mo ad)) (F0 m 382 ls [])) : ∀ {S : mSt} {v1 : Int32} {v2 : Int32} {v3 : Int32} {v6 : Int32} {v10 : Int32} {s0 : Int32} {H : Heap} {locs : List Loc} {ls : Array Slot}, fm_apply_434 g_382 S v1 v2 v3 v6 v10 s0 = some S9 → mW cM iS cI cZ mo ad S H → mS (mA mo ad) s.heap H locs → lv_has ls 11 [(0, .ref mo), (1, .int v1), (2, .int v2), (3, .int v3), (6, .int v6), (10, .int v10)] → W p l e R s m args below meth c H locs 0 0 (MQ below (mQw none cM iS cI cZ mo ad S9) args s 0 0 (mA mo ad)) (F0 m 434 ls [.int s0]) := by
  intro S v1 v2 v3 v6 v10 s0 H locs ls h hW hS hl
  unfold fm_apply_434 at h
  refine lv_istore (lv' := [(9, .int s0), (0, .ref mo), (1, .int v1), (2, .int v2), (3, .int v3), (6, .int v6), (10, .int v10)]) C.1 C.2.1 dX12_apply_434 hl (by decide) rfl (fun ls hl => ?_)
  refine lt_ok h (fun x1 e_x1 h => ?_)
  refine lv_iinc (v := x1) (lv' := [(10, .int x1), (9, .int s0), (0, .ref mo), (1, .int v1), (2, .int v2), (3, .int v3), (6, .int v6)]) C.1 C.2.1 dX12_apply_436 hl (k := 6) rfl (by rw [← e_x1]; rfl) (by decide) rfl (fun ls hl => ?_)
  refine lv_goto (tgt := 382) C.1 C.2.1 dX12_apply_439 (by decide) ?_
  exact hg_382 h hW hS (lv_sub hl [2, 3, 4, 5, 6, 1, 0] rfl)
noncomputable def fm_apply_433 (g_382 : mSt → Int32 → Int32 → Int32 → Int32 → Int32 → Int32 → Option (mSt)) (S : mSt) (v1 : Int32) (v2 : Int32) (v3 : Int32) (v6 : Int32) (v10 : Int32) : Option (mSt) :=
fm_apply_434 g_382 S v1 v2 v3 v6 v10 (0 : Int32)
set_option maxRecDepth 100000 in
set_option maxHeartbeats 4000000 in
theorem wm_apply_433 (C : mY p R s m args meth c cX12_apply 11 8 194 none) (X : mX s cM iS cI cZ mo ad) {g_382 : mSt → Int32 → Int32 → Int32 → Int32 → Int32 → Int32 → Option (mSt)} (hg_382 : ∀ {S : mSt} {v1 : Int32} {v2 : Int32} {v3 : Int32} {v6 : Int32} {v9 : Int32} {v10 : Int32} {H : Heap} {locs : List Loc} {ls : Array Slot}, g_382 S v1 v2 v3 v6 v9 v10 = some S9 → mW cM iS cI cZ mo ad S H → mS (mA mo ad) s.heap H locs → lv_has ls 11 [(0, .ref mo), (1, .int v1), (2, .int v2), (3, .int v3), (6, .int v6), (9, .int v9), (10, .int v10)] → W p l e R s m args below meth c H locs 0 0 (MQ below (mQw none cM iS cI cZ mo ad S9) args s 0 0 (mA mo ad)) (F0 m 382 ls [])) : ∀ {S : mSt} {v1 : Int32} {v2 : Int32} {v3 : Int32} {v6 : Int32} {v10 : Int32} {H : Heap} {locs : List Loc} {ls : Array Slot}, fm_apply_433 g_382 S v1 v2 v3 v6 v10 = some S9 → mW cM iS cI cZ mo ad S H → mS (mA mo ad) s.heap H locs → lv_has ls 11 [(0, .ref mo), (1, .int v1), (2, .int v2), (3, .int v3), (6, .int v6), (10, .int v10)] → W p l e R s m args below meth c H locs 0 0 (MQ below (mQw none cM iS cI cZ mo ad S9) args s 0 0 (mA mo ad)) (F0 m 433 ls []) := by
  intro S v1 v2 v3 v6 v10 H locs ls h hW hS hl
  unfold fm_apply_433 at h
  refine lv_iconst (v := 0) C.1 C.2.1 dX12_apply_433 (by decide) ?_
  exact wm_apply_434 C X hg_382 h hW hS (lv_sub hl [0, 1, 2, 3, 4, 5] rfl)
noncomputable def fm_apply_382 : Nat → mSt → Int32 → Int32 → Int32 → Int32 → Int32 → Int32 → Option (mSt)
  | 0, _, _, _, _, _, _, _ => none
  | n + 1, S, v1, v2, v3, v6, v9, v10 =>
    if (S.1 49) ≤ v10 then (
    fm_apply_442 S v1 v2 v3 v6 v9)
    else (
    if v9 = 0 then (
    fm_apply_442 S v1 v2 v3 v6 v9)
    else (
    ck v10 1000 (
    ck v10 1000 (
    if (rd S 62 v10) = (rd S 50 v10) then (
    ck v10 1000 (
    bd (fm_boundAt S v10) fun r4 =>
    if (rd S 63 v10) = r4 then (
    fm_apply_434 (fm_apply_382 n) S v1 v2 v3 v6 v10 (1 : Int32))
    else (
    fm_apply_433 (fm_apply_382 n) S v1 v2 v3 v6 v10)))
    else (
    fm_apply_433 (fm_apply_382 n) S v1 v2 v3 v6 v10)))))
set_option maxRecDepth 100000 in
set_option maxHeartbeats 4000000 in
theorem wm_apply_382 (C : mY p R s m args meth c cX12_apply 11 8 194 none) (X : mX s cM iS cI cZ mo ad) : ∀ (n : Nat), ∀ {S : mSt} {v1 : Int32} {v2 : Int32} {v3 : Int32} {v6 : Int32} {v9 : Int32} {v10 : Int32} {H : Heap} {locs : List Loc} {ls : Array Slot}, fm_apply_382 n S v1 v2 v3 v6 v9 v10 = some S9 → mW cM iS cI cZ mo ad S H → mS (mA mo ad) s.heap H locs → lv_has ls 11 [(0, .ref mo), (1, .int v1), (2, .int v2), (3, .int v3), (6, .int v6), (9, .int v9), (10, .int v10)] → W p l e R s m args below meth c H locs 0 0 (MQ below (mQw none cM iS cI cZ mo ad S9) args s 0 0 (mA mo ad)) (F0 m 382 ls []) := by
  intro n
  induction n with
  | zero =>
    intro S v1 v2 v3 v6 v9 v10 H locs ls h hW hS hl
    exact absurd (show (none : Option (mSt)) = _ from h) (fun q => by cases q)
  | succ n ih =>
    intro S v1 v2 v3 v6 v9 v10 H locs ls h hW hS hl
    rw [fm_apply_382] at h
    refine lv_iload C.1 C.2.1 dX12_apply_382 (lv_at hl 6 rfl) ?_
    refine lv_aload_n C.1 C.2.1 dX12_apply_384 rfl (lv_at hl 0 rfl) ?_
    refine gf_49 C X hW dX12_apply_385 ?_
    refine lv_icmp_ge (tgt := 442) C.1 C.2.1 dX12_apply_388 (by decide) (fun c1 => ?_) (fun c1 => ?_)
    · have h := if_t h c1
      exact wm_apply_442 C X h hW hS (lv_sub hl [0, 1, 2, 3, 4, 5] rfl)
    · have h := if_f h c1
      refine lv_iload C.1 C.2.1 dX12_apply_391 (lv_at hl 5 rfl) ?_
      refine lv_if_eq (tgt := 442) C.1 C.2.1 dX12_apply_393 (by decide) (fun c2 => ?_) (fun c2 => ?_)
      · have h := if_t h c2
        exact wm_apply_442 C X h hW hS (lv_sub hl [0, 1, 2, 3, 4, 5] rfl)
      · have h := if_f h c2
        refine lv_aload_n C.1 C.2.1 dX12_apply_396 rfl (lv_at hl 0 rfl) ?_
        refine gf_62 C X hW dX12_apply_397 ?_
        refine lv_iload C.1 C.2.1 dX12_apply_400 (lv_at hl 6 rfl) ?_
        obtain ⟨hin, h⟩ := ck_ok h
        refine l_62 C X hW hin dX12_apply_402 ?_
        refine lv_aload_n C.1 C.2.1 dX12_apply_403 rfl (lv_at hl 0 rfl) ?_
        refine gf_50 C X hW dX12_apply_404 ?_
        refine lv_iload C.1 C.2.1 dX12_apply_407 (lv_at hl 6 rfl) ?_
        obtain ⟨hin, h⟩ := ck_ok h
        refine l_50 C X hW hin dX12_apply_409 ?_
        refine lv_icmp_ne (tgt := 433) C.1 C.2.1 dX12_apply_410 (by decide) (fun c3 => ?_) (fun c3 => ?_)
        · have h := if_f h c3
          exact wm_apply_433 C X ih h hW hS (lv_sub hl [0, 1, 2, 3, 4, 6] rfl)
        · have h := if_t h c3
          refine lv_aload_n C.1 C.2.1 dX12_apply_413 rfl (lv_at hl 0 rfl) ?_
          refine gf_63 C X hW dX12_apply_414 ?_
          refine lv_iload C.1 C.2.1 dX12_apply_417 (lv_at hl 6 rfl) ?_
          obtain ⟨hin, h⟩ := ck_ok h
          refine l_63 C X hW hin dX12_apply_419 ?_
          refine lv_aload_n C.1 C.2.1 dX12_apply_420 rfl (lv_at hl 0 rfl) ?_
          refine lv_iload C.1 C.2.1 dX12_apply_421 (lv_at hl 6 rfl) ?_
          obtain ⟨r4, h_r4, h⟩ := bd_ok h
          refine m_callR (rest := [.int (rd S 63 v10)]) C X hW hl.1 [.int v10] (tm_boundAt l h_r4) mw_boundAt im_boundAt sl_boundAt rfl ⟨by decide, by decide⟩ rfl (Nat.le_of_ble_eq_true rfl) dX12_apply_423 ?_
          refine lv_icmp_ne (tgt := 433) C.1 C.2.1 dX12_apply_426 (by decide) (fun c5 => ?_) (fun c5 => ?_)
          · have h := if_f h c5
            exact wm_apply_433 C X ih h hW hS (lv_sub hl [0, 1, 2, 3, 4, 6] rfl)
          · have h := if_t h c5
            refine lv_iconst (v := 1) C.1 C.2.1 dX12_apply_429 (by decide) ?_
            refine lv_goto (tgt := 434) C.1 C.2.1 dX12_apply_430 (by decide) ?_
            exact wm_apply_434 C X ih h hW hS (lv_sub hl [0, 1, 2, 3, 4, 6] rfl)
noncomputable def fm_apply_377 (S : mSt) (v1 : Int32) (v2 : Int32) (v3 : Int32) (v6 : Int32) (s0 : Int32) : Option (mSt) :=
fm_apply_382 mFU S v1 v2 v3 v6 s0 (0 : Int32)
set_option maxRecDepth 100000 in
set_option maxHeartbeats 4000000 in
theorem wm_apply_377 (C : mY p R s m args meth c cX12_apply 11 8 194 none) (X : mX s cM iS cI cZ mo ad) : ∀ {S : mSt} {v1 : Int32} {v2 : Int32} {v3 : Int32} {v6 : Int32} {s0 : Int32} {H : Heap} {locs : List Loc} {ls : Array Slot}, fm_apply_377 S v1 v2 v3 v6 s0 = some S9 → mW cM iS cI cZ mo ad S H → mS (mA mo ad) s.heap H locs → lv_has ls 11 [(0, .ref mo), (1, .int v1), (2, .int v2), (3, .int v3), (6, .int v6)] → W p l e R s m args below meth c H locs 0 0 (MQ below (mQw none cM iS cI cZ mo ad S9) args s 0 0 (mA mo ad)) (F0 m 377 ls [.int s0]) := by
  intro S v1 v2 v3 v6 s0 H locs ls h hW hS hl
  unfold fm_apply_377 at h
  refine lv_istore (lv' := [(9, .int s0), (0, .ref mo), (1, .int v1), (2, .int v2), (3, .int v3), (6, .int v6)]) C.1 C.2.1 dX12_apply_377 hl (by decide) rfl (fun ls hl => ?_)
  refine lv_iconst (v := 0) C.1 C.2.1 dX12_apply_379 (by decide) ?_
  refine lv_istore (lv' := [(10, .int (0 : Int32)), (9, .int s0), (0, .ref mo), (1, .int v1), (2, .int v2), (3, .int v3), (6, .int v6)]) C.1 C.2.1 dX12_apply_380 hl (by decide) rfl (fun ls hl => ?_)
  exact wm_apply_382 C X mFU h hW hS (lv_sub hl [2, 3, 4, 5, 6, 1, 0] rfl)
noncomputable def fm_apply_333 (S : mSt) (v1 : Int32) (v2 : Int32) (v3 : Int32) (v4 : Int32) (v5 : Int32) (v6 : Int32) (v7 : Int32) (v8 : Int32) : Option (mSt) :=
bd (fm_drop S v1 v2) fun S1 =>
if v5 = 0 then (
if v4 = (11 : Int32) then (
bd (fm_findParents S1 v1 (v7 + (1 : Int32))) fun S8 =>
fm_apply_483 mFU S8 v1 v2 (0 : Int32))
else (
bd (fm_isThere S1 v1 v6 (v7 + (1 : Int32))) fun q_r5 => lt q_r5.1 fun r5 => lt q_r5.2 fun S4 =>
if v8 = r5 then (
fm_apply_559 S4 v1 v2)
else (
bd (fm_tell S4 v1 v2 v6 (7 : Int32)) fun S7 =>
fm_apply_559 S7 v1 v2)))
else (
ck v3 1000 (
bd (fm_look S1 v1 (v7 + (1 : Int32)) v6 (rd S1 11 v3)) fun S9 =>
if (S9.1 49) = (S9.1 61) then (
fm_apply_377 S9 v1 v2 v3 v6 (1 : Int32))
else (
fm_apply_377 S9 v1 v2 v3 v6 (0 : Int32))))
set_option maxRecDepth 100000 in
set_option maxHeartbeats 4000000 in
theorem wm_apply_333 (C : mY p R s m args meth c cX12_apply 11 8 194 none) (X : mX s cM iS cI cZ mo ad) : ∀ {S : mSt} {v1 : Int32} {v2 : Int32} {v3 : Int32} {v4 : Int32} {v5 : Int32} {v6 : Int32} {v7 : Int32} {v8 : Int32} {H : Heap} {locs : List Loc} {ls : Array Slot}, fm_apply_333 S v1 v2 v3 v4 v5 v6 v7 v8 = some S9 → mW cM iS cI cZ mo ad S H → mS (mA mo ad) s.heap H locs → lv_has ls 11 [(0, .ref mo), (1, .int v1), (2, .int v2), (3, .int v3), (4, .int v4), (5, .int v5), (6, .int v6), (7, .int v7), (8, .int v8)] → W p l e R s m args below meth c H locs 0 0 (MQ below (mQw none cM iS cI cZ mo ad S9) args s 0 0 (mA mo ad)) (F0 m 333 ls []) := by
  intro S v1 v2 v3 v4 v5 v6 v7 v8 H locs ls h hW hS hl
  unfold fm_apply_333 at h
  refine lv_aload_n C.1 C.2.1 dX12_apply_333 rfl (lv_at hl 0 rfl) ?_
  refine lv_iload_n C.1 C.2.1 dX12_apply_334 rfl (lv_at hl 1 rfl) ?_
  refine lv_iload_n C.1 C.2.1 dX12_apply_335 rfl (lv_at hl 2 rfl) ?_
  obtain ⟨S1, h_S1, h⟩ := bd_ok h
  refine m_callW (rest := []) (ov := none) C X hW hS hl.1 [.int v1, .int v2] (tm_drop l h_S1) mw_drop im_drop sl_drop rfl ⟨by decide, by decide⟩ rfl (Nat.le_of_ble_eq_true rfl) dX12_apply_336 (fun H locs hW hS => ?_)
  refine W.eq (g2 := F0 m 339 ls []) rfl ?_
  refine lv_iload C.1 C.2.1 dX12_apply_339 (lv_at hl 5 rfl) ?_
  refine lv_if_eq (tgt := 464) C.1 C.2.1 dX12_apply_341 (by decide) (fun c2 => ?_) (fun c2 => ?_)
  · have h := if_t h c2
    refine lv_iload C.1 C.2.1 dX12_apply_464 (lv_at hl 4 rfl) ?_
    refine lv_bipush (v := 11) C.1 C.2.1 dX12_apply_466 (by decide) ?_
    refine lv_icmp_ne (tgt := 533) C.1 C.2.1 dX12_apply_468 (by decide) (fun c3 => ?_) (fun c3 => ?_)
    · have h := if_f h c3
      refine lv_iload C.1 C.2.1 dX12_apply_533 (lv_at hl 8 rfl) ?_
      refine lv_aload_n C.1 C.2.1 dX12_apply_535 rfl (lv_at hl 0 rfl) ?_
      refine lv_iload_n C.1 C.2.1 dX12_apply_536 rfl (lv_at hl 1 rfl) ?_
      refine lv_iload C.1 C.2.1 dX12_apply_537 (lv_at hl 6 rfl) ?_
      refine lv_iload C.1 C.2.1 dX12_apply_539 (lv_at hl 7 rfl) ?_
      refine lv_iconst (v := 1) C.1 C.2.1 dX12_apply_541 (by decide) ?_
      refine lv_iadd C.1 C.2.1 dX12_apply_542 ?_
      obtain ⟨⟨r5, S4⟩, h_S4, h⟩ := bd_ok h
      refine m_callW (rest := [.int v8]) (ov := some (.int r5)) C X hW hS hl.1 [.int v1, .int v6, .int (v7 + (1 : Int32))] (tm_isThere l h_S4) mw_isThere im_isThere sl_isThere rfl ⟨by decide, by decide⟩ rfl (Nat.le_of_ble_eq_true rfl) dX12_apply_543 (fun H locs hW hS => ?_)
      refine W.eq (g2 := F0 m 546 ls [.int r5, .int v8]) rfl ?_
      refine lv_icmp_eq (tgt := 559) C.1 C.2.1 dX12_apply_546 (by decide) (fun c6 => ?_) (fun c6 => ?_)
      · have h := if_t h c6
        exact wm_apply_559 C X h hW hS (lv_sub hl [0, 1, 2] rfl)
      · have h := if_f h c6
        refine lv_aload_n C.1 C.2.1 dX12_apply_549 rfl (lv_at hl 0 rfl) ?_
        refine lv_iload_n C.1 C.2.1 dX12_apply_550 rfl (lv_at hl 1 rfl) ?_
        refine lv_iload_n C.1 C.2.1 dX12_apply_551 rfl (lv_at hl 2 rfl) ?_
        refine lv_iload C.1 C.2.1 dX12_apply_552 (lv_at hl 6 rfl) ?_
        refine lv_bipush (v := 7) C.1 C.2.1 dX12_apply_554 (by decide) ?_
        obtain ⟨S7, h_S7, h⟩ := bd_ok h
        refine m_callW (rest := []) (ov := none) C X hW hS hl.1 [.int v1, .int v2, .int v6, .int (7 : Int32)] (tm_tell l h_S7) mw_tell im_tell sl_tell rfl ⟨by decide, by decide⟩ rfl (Nat.le_of_ble_eq_true rfl) dX12_apply_556 (fun H locs hW hS => ?_)
        refine W.eq (g2 := F0 m 559 ls []) rfl ?_
        exact wm_apply_559 C X h hW hS (lv_sub hl [0, 1, 2] rfl)
    · have h := if_t h c3
      refine lv_aload_n C.1 C.2.1 dX12_apply_471 rfl (lv_at hl 0 rfl) ?_
      refine lv_iload_n C.1 C.2.1 dX12_apply_472 rfl (lv_at hl 1 rfl) ?_
      refine lv_iload C.1 C.2.1 dX12_apply_473 (lv_at hl 7 rfl) ?_
      refine lv_iconst (v := 1) C.1 C.2.1 dX12_apply_475 (by decide) ?_
      refine lv_iadd C.1 C.2.1 dX12_apply_476 ?_
      obtain ⟨S8, h_S8, h⟩ := bd_ok h
      refine m_callW (rest := []) (ov := none) C X hW hS hl.1 [.int v1, .int (v7 + (1 : Int32))] (tm_findParents l h_S8) mw_findParents im_findParents sl_findParents rfl ⟨by decide, by decide⟩ rfl (Nat.le_of_ble_eq_true rfl) dX12_apply_477 (fun H locs hW hS => ?_)
      refine W.eq (g2 := F0 m 480 ls []) rfl ?_
      refine lv_iconst (v := 0) C.1 C.2.1 dX12_apply_480 (by decide) ?_
      refine lv_istore (lv' := [(9, .int (0 : Int32)), (0, .ref mo), (1, .int v1), (2, .int v2), (3, .int v3), (4, .int v4), (5, .int v5), (6, .int v6), (7, .int v7), (8, .int v8)]) C.1 C.2.1 dX12_apply_481 hl (by decide) rfl (fun ls hl => ?_)
      exact wm_apply_483 C X mFU h hW hS (lv_sub hl [1, 2, 3, 0] rfl)
  · have h := if_f h c2
    refine lv_aload_n C.1 C.2.1 dX12_apply_344 rfl (lv_at hl 0 rfl) ?_
    refine lv_iload_n C.1 C.2.1 dX12_apply_345 rfl (lv_at hl 1 rfl) ?_
    refine lv_iload C.1 C.2.1 dX12_apply_346 (lv_at hl 7 rfl) ?_
    refine lv_iconst (v := 1) C.1 C.2.1 dX12_apply_348 (by decide) ?_
    refine lv_iadd C.1 C.2.1 dX12_apply_349 ?_
    refine lv_iload C.1 C.2.1 dX12_apply_350 (lv_at hl 6 rfl) ?_
    refine lv_aload_n C.1 C.2.1 dX12_apply_352 rfl (lv_at hl 0 rfl) ?_
    refine gf_11 C X hW dX12_apply_353 ?_
    refine lv_iload_n C.1 C.2.1 dX12_apply_356 rfl (lv_at hl 3 rfl) ?_
    obtain ⟨hin, h⟩ := ck_ok h
    refine l_11 C X hW hin dX12_apply_357 ?_
    obtain ⟨S9, h_S9, h⟩ := bd_ok h
    refine m_callW (rest := []) (ov := none) C X hW hS hl.1 [.int v1, .int (v7 + (1 : Int32)), .int v6, .int (rd S1 11 v3)] (tm_look l h_S9) mw_look im_look sl_look rfl ⟨by decide, by decide⟩ rfl (Nat.le_of_ble_eq_true rfl) dX12_apply_358 (fun H locs hW hS => ?_)
    refine W.eq (g2 := F0 m 361 ls []) rfl ?_
    refine lv_aload_n C.1 C.2.1 dX12_apply_361 rfl (lv_at hl 0 rfl) ?_
    refine gf_49 C X hW dX12_apply_362 ?_
    refine lv_aload_n C.1 C.2.1 dX12_apply_365 rfl (lv_at hl 0 rfl) ?_
    refine gf_61 C X hW dX12_apply_366 ?_
    refine lv_icmp_ne (tgt := 376) C.1 C.2.1 dX12_apply_369 (by decide) (fun c10 => ?_) (fun c10 => ?_)
    · have h := if_f h c10
      refine lv_iconst (v := 0) C.1 C.2.1 dX12_apply_376 (by decide) ?_
      exact wm_apply_377 C X h hW hS (lv_sub hl [0, 1, 2, 3, 6] rfl)
    · have h := if_t h c10
      refine lv_iconst (v := 1) C.1 C.2.1 dX12_apply_372 (by decide) ?_
      refine lv_goto (tgt := 377) C.1 C.2.1 dX12_apply_373 (by decide) ?_
      exact wm_apply_377 C X h hW hS (lv_sub hl [0, 1, 2, 3, 6] rfl)
noncomputable def fm_apply_309 (S : mSt) (v1 : Int32) (v2 : Int32) (v3 : Int32) (v4 : Int32) (v5 : Int32) (v6 : Int32) (v7 : Int32) (v8 : Int32) : Option (mSt) :=
ck v2 1000 (
ck v1 4 (lt (wr S 18 v1 (rd S 14 v2)) fun S1 =>
ck v2 1000 (
ck v1 4 (lt (wr S1 19 v1 (rd S1 15 v2)) fun S2 =>
fm_apply_333 S2 v1 v2 v3 v4 v5 v6 v7 v8))))
set_option maxRecDepth 100000 in
set_option maxHeartbeats 4000000 in
theorem wm_apply_309 (C : mY p R s m args meth c cX12_apply 11 8 194 none) (X : mX s cM iS cI cZ mo ad) : ∀ {S : mSt} {v1 : Int32} {v2 : Int32} {v3 : Int32} {v4 : Int32} {v5 : Int32} {v6 : Int32} {v7 : Int32} {v8 : Int32} {H : Heap} {locs : List Loc} {ls : Array Slot}, fm_apply_309 S v1 v2 v3 v4 v5 v6 v7 v8 = some S9 → mW cM iS cI cZ mo ad S H → mS (mA mo ad) s.heap H locs → lv_has ls 11 [(0, .ref mo), (1, .int v1), (2, .int v2), (3, .int v3), (4, .int v4), (5, .int v5), (6, .int v6), (7, .int v7), (8, .int v8)] → W p l e R s m args below meth c H locs 0 0 (MQ below (mQw none cM iS cI cZ mo ad S9) args s 0 0 (mA mo ad)) (F0 m 309 ls []) := by
  intro S v1 v2 v3 v4 v5 v6 v7 v8 H locs ls h hW hS hl
  unfold fm_apply_309 at h
  refine lv_aload_n C.1 C.2.1 dX12_apply_309 rfl (lv_at hl 0 rfl) ?_
  refine gf_18 C X hW dX12_apply_310 ?_
  refine lv_iload_n C.1 C.2.1 dX12_apply_313 rfl (lv_at hl 1 rfl) ?_
  refine lv_aload_n C.1 C.2.1 dX12_apply_314 rfl (lv_at hl 0 rfl) ?_
  refine gf_14 C X hW dX12_apply_315 ?_
  refine lv_iload_n C.1 C.2.1 dX12_apply_318 rfl (lv_at hl 2 rfl) ?_
  obtain ⟨hin, h⟩ := ck_ok h
  refine l_14 C X hW hin dX12_apply_319 ?_
  obtain ⟨hin, h⟩ := ck_ok h
  refine s_18 C X hW hS hin dX12_apply_320 (fun H locs hW hS => ?_)
  refine lt_ok h (fun S1 e_S1 h => ?_)
  rw [e_S1] at hW
  refine lv_aload_n C.1 C.2.1 dX12_apply_321 rfl (lv_at hl 0 rfl) ?_
  refine gf_19 C X hW dX12_apply_322 ?_
  refine lv_iload_n C.1 C.2.1 dX12_apply_325 rfl (lv_at hl 1 rfl) ?_
  refine lv_aload_n C.1 C.2.1 dX12_apply_326 rfl (lv_at hl 0 rfl) ?_
  refine gf_15 C X hW dX12_apply_327 ?_
  refine lv_iload_n C.1 C.2.1 dX12_apply_330 rfl (lv_at hl 2 rfl) ?_
  obtain ⟨hin, h⟩ := ck_ok h
  refine l_15 C X hW hin dX12_apply_331 ?_
  obtain ⟨hin, h⟩ := ck_ok h
  refine s_19 C X hW hS hin dX12_apply_332 (fun H locs hW hS => ?_)
  refine lt_ok h (fun S2 e_S2 h => ?_)
  rw [e_S2] at hW
  exact wm_apply_333 C X h hW hS (lv_sub hl [0, 1, 2, 3, 4, 5, 6, 7, 8] rfl)
noncomputable def fm_apply_218 (S : mSt) (v1 : Int32) (v2 : Int32) (v3 : Int32) (v4 : Int32) (v5 : Int32) (v6 : Int32) (v7 : Int32) (v8 : Int32) : Option (mSt) :=
bd (fm_keepLists S v1) fun S1 =>
ck (((1000 : Int32) * v1) + v7) 4000 (lt (wr S1 24 (((1000 : Int32) * v1) + v7) v2) fun S2 =>
ck v1 4 (
ck v1 4 (lt (wr S2 23 v1 ((rd S2 23 v1) + (1 : Int32))) fun S3 =>
bd (fm_nodeOf v2) fun r4 =>
bd (fm_numberOf v2) fun r5 =>
ck (((4 : Int32) * v1) + r4) 16 (lt (wr S3 20 (((4 : Int32) * v1) + r4) r5) fun S6 =>
ck v2 1000 (
ck v1 4 (
if (rd S6 18 v1) < (rd S6 14 v2) then (
fm_apply_309 S6 v1 v2 v3 v4 v5 v6 v7 v8)
else (
ck v2 1000 (
ck v1 4 (
if (rd S6 14 v2) = (rd S6 18 v1) then (
ck v2 1000 (
ck v1 4 (
if (rd S6 15 v2) ≤ (rd S6 19 v1) then (
fm_apply_333 S6 v1 v2 v3 v4 v5 v6 v7 v8)
else (
fm_apply_309 S6 v1 v2 v3 v4 v5 v6 v7 v8))))
else (
fm_apply_333 S6 v1 v2 v3 v4 v5 v6 v7 v8))))))))))
set_option maxRecDepth 100000 in
set_option maxHeartbeats 4000000 in
theorem wm_apply_218 (C : mY p R s m args meth c cX12_apply 11 8 194 none) (X : mX s cM iS cI cZ mo ad) : ∀ {S : mSt} {v1 : Int32} {v2 : Int32} {v3 : Int32} {v4 : Int32} {v5 : Int32} {v6 : Int32} {v7 : Int32} {v8 : Int32} {H : Heap} {locs : List Loc} {ls : Array Slot}, fm_apply_218 S v1 v2 v3 v4 v5 v6 v7 v8 = some S9 → mW cM iS cI cZ mo ad S H → mS (mA mo ad) s.heap H locs → lv_has ls 11 [(0, .ref mo), (1, .int v1), (2, .int v2), (3, .int v3), (4, .int v4), (5, .int v5), (6, .int v6), (7, .int v7), (8, .int v8)] → W p l e R s m args below meth c H locs 0 0 (MQ below (mQw none cM iS cI cZ mo ad S9) args s 0 0 (mA mo ad)) (F0 m 218 ls []) := by
  intro S v1 v2 v3 v4 v5 v6 v7 v8 H locs ls h hW hS hl
  unfold fm_apply_218 at h
  refine lv_aload_n C.1 C.2.1 dX12_apply_218 rfl (lv_at hl 0 rfl) ?_
  refine lv_iload_n C.1 C.2.1 dX12_apply_219 rfl (lv_at hl 1 rfl) ?_
  obtain ⟨S1, h_S1, h⟩ := bd_ok h
  refine m_callW (rest := []) (ov := none) C X hW hS hl.1 [.int v1] (tm_keepLists l h_S1) mw_keepLists im_keepLists sl_keepLists rfl ⟨by decide, by decide⟩ rfl (Nat.le_of_ble_eq_true rfl) dX12_apply_220 (fun H locs hW hS => ?_)
  refine W.eq (g2 := F0 m 223 ls []) rfl ?_
  refine lv_aload_n C.1 C.2.1 dX12_apply_223 rfl (lv_at hl 0 rfl) ?_
  refine gf_24 C X hW dX12_apply_224 ?_
  refine lv_sipush (v := 1000) C.1 C.2.1 dX12_apply_227 (by decide) ?_
  refine lv_iload_n C.1 C.2.1 dX12_apply_230 rfl (lv_at hl 1 rfl) ?_
  refine lv_imul C.1 C.2.1 dX12_apply_231 ?_
  refine lv_iload C.1 C.2.1 dX12_apply_232 (lv_at hl 7 rfl) ?_
  refine lv_iadd C.1 C.2.1 dX12_apply_234 ?_
  refine lv_iload_n C.1 C.2.1 dX12_apply_235 rfl (lv_at hl 2 rfl) ?_
  obtain ⟨hin, h⟩ := ck_ok h
  refine s_24 C X hW hS hin dX12_apply_236 (fun H locs hW hS => ?_)
  refine lt_ok h (fun S2 e_S2 h => ?_)
  rw [e_S2] at hW
  refine lv_aload_n C.1 C.2.1 dX12_apply_237 rfl (lv_at hl 0 rfl) ?_
  refine gf_23 C X hW dX12_apply_238 ?_
  refine lv_iload_n C.1 C.2.1 dX12_apply_241 rfl (lv_at hl 1 rfl) ?_
  refine lv_dup2_11 C.1 C.2.1 dX12_apply_242 rfl rfl ?_
  obtain ⟨hin, h⟩ := ck_ok h
  refine l_23 C X hW hin dX12_apply_243 ?_
  refine lv_iconst (v := 1) C.1 C.2.1 dX12_apply_244 (by decide) ?_
  refine lv_iadd C.1 C.2.1 dX12_apply_245 ?_
  obtain ⟨hin, h⟩ := ck_ok h
  refine s_23 C X hW hS hin dX12_apply_246 (fun H locs hW hS => ?_)
  refine lt_ok h (fun S3 e_S3 h => ?_)
  rw [e_S3] at hW
  refine lv_aload_n C.1 C.2.1 dX12_apply_247 rfl (lv_at hl 0 rfl) ?_
  refine gf_20 C X hW dX12_apply_248 ?_
  refine lv_iconst (v := 4) C.1 C.2.1 dX12_apply_251 (by decide) ?_
  refine lv_iload_n C.1 C.2.1 dX12_apply_252 rfl (lv_at hl 1 rfl) ?_
  refine lv_imul C.1 C.2.1 dX12_apply_253 ?_
  refine lv_iload_n C.1 C.2.1 dX12_apply_254 rfl (lv_at hl 2 rfl) ?_
  obtain ⟨r4, h_r4, h⟩ := bd_ok h
  refine m_callS (rest := [.int ((4 : Int32) * v1), .ref (ad 20)]) C hl.1 [.int v2] (tm_nodeOf l h_r4) mw_nodeOf st_nodeOf rfl ⟨by decide, by decide⟩ rfl (Nat.le_of_ble_eq_true rfl) dX12_apply_255 ?_
  refine lv_iadd C.1 C.2.1 dX12_apply_258 ?_
  refine lv_iload_n C.1 C.2.1 dX12_apply_259 rfl (lv_at hl 2 rfl) ?_
  obtain ⟨r5, h_r5, h⟩ := bd_ok h
  refine m_callS (rest := [.int (((4 : Int32) * v1) + r4), .ref (ad 20)]) C hl.1 [.int v2] (tm_numberOf l h_r5) mw_numberOf st_numberOf rfl ⟨by decide, by decide⟩ rfl (Nat.le_of_ble_eq_true rfl) dX12_apply_260 ?_
  obtain ⟨hin, h⟩ := ck_ok h
  refine s_20 C X hW hS hin dX12_apply_263 (fun H locs hW hS => ?_)
  refine lt_ok h (fun S6 e_S6 h => ?_)
  rw [e_S6] at hW
  refine lv_aload_n C.1 C.2.1 dX12_apply_264 rfl (lv_at hl 0 rfl) ?_
  refine gf_14 C X hW dX12_apply_265 ?_
  refine lv_iload_n C.1 C.2.1 dX12_apply_268 rfl (lv_at hl 2 rfl) ?_
  obtain ⟨hin, h⟩ := ck_ok h
  refine l_14 C X hW hin dX12_apply_269 ?_
  refine lv_aload_n C.1 C.2.1 dX12_apply_270 rfl (lv_at hl 0 rfl) ?_
  refine gf_18 C X hW dX12_apply_271 ?_
  refine lv_iload_n C.1 C.2.1 dX12_apply_274 rfl (lv_at hl 1 rfl) ?_
  obtain ⟨hin, h⟩ := ck_ok h
  refine l_18 C X hW hin dX12_apply_275 ?_
  refine lv_icmp_gt (tgt := 309) C.1 C.2.1 dX12_apply_276 (by decide) (fun c7 => ?_) (fun c7 => ?_)
  · have h := if_t h c7
    exact wm_apply_309 C X h hW hS (lv_sub hl [0, 1, 2, 3, 4, 5, 6, 7, 8] rfl)
  · have h := if_f h c7
    refine lv_aload_n C.1 C.2.1 dX12_apply_279 rfl (lv_at hl 0 rfl) ?_
    refine gf_14 C X hW dX12_apply_280 ?_
    refine lv_iload_n C.1 C.2.1 dX12_apply_283 rfl (lv_at hl 2 rfl) ?_
    obtain ⟨hin, h⟩ := ck_ok h
    refine l_14 C X hW hin dX12_apply_284 ?_
    refine lv_aload_n C.1 C.2.1 dX12_apply_285 rfl (lv_at hl 0 rfl) ?_
    refine gf_18 C X hW dX12_apply_286 ?_
    refine lv_iload_n C.1 C.2.1 dX12_apply_289 rfl (lv_at hl 1 rfl) ?_
    obtain ⟨hin, h⟩ := ck_ok h
    refine l_18 C X hW hin dX12_apply_290 ?_
    refine lv_icmp_ne (tgt := 333) C.1 C.2.1 dX12_apply_291 (by decide) (fun c8 => ?_) (fun c8 => ?_)
    · have h := if_f h c8
      exact wm_apply_333 C X h hW hS (lv_sub hl [0, 1, 2, 3, 4, 5, 6, 7, 8] rfl)
    · have h := if_t h c8
      refine lv_aload_n C.1 C.2.1 dX12_apply_294 rfl (lv_at hl 0 rfl) ?_
      refine gf_15 C X hW dX12_apply_295 ?_
      refine lv_iload_n C.1 C.2.1 dX12_apply_298 rfl (lv_at hl 2 rfl) ?_
      obtain ⟨hin, h⟩ := ck_ok h
      refine l_15 C X hW hin dX12_apply_299 ?_
      refine lv_aload_n C.1 C.2.1 dX12_apply_300 rfl (lv_at hl 0 rfl) ?_
      refine gf_19 C X hW dX12_apply_301 ?_
      refine lv_iload_n C.1 C.2.1 dX12_apply_304 rfl (lv_at hl 1 rfl) ?_
      obtain ⟨hin, h⟩ := ck_ok h
      refine l_19 C X hW hin dX12_apply_305 ?_
      refine lv_icmp_le (tgt := 333) C.1 C.2.1 dX12_apply_306 (by decide) (fun c9 => ?_) (fun c9 => ?_)
      · have h := if_t h c9
        exact wm_apply_333 C X h hW hS (lv_sub hl [0, 1, 2, 3, 4, 5, 6, 7, 8] rfl)
      · have h := if_f h c9
        exact wm_apply_309 C X h hW hS (lv_sub hl [0, 1, 2, 3, 4, 5, 6, 7, 8] rfl)
noncomputable def fm_apply_175 : Nat → mSt → Int32 → Int32 → Int32 → Int32 → Int32 → Int32 → Int32 → Int32 → Int32 → Option (mSt)
  | 0, _, _, _, _, _, _, _, _, _, _ => none
  | n + 1, S, v1, v2, v3, v4, v5, v6, v7, v8, v9 =>
    if (S.1 54) ≤ v9 then (
    fm_apply_218 S v1 v2 v3 v4 v5 v6 v7 v8)
    else (
    ck v9 48 (
    ck v9 48 (lt (wr S 64 v9 (rd S 56 v9)) fun S2 =>
    lt (v9 + (1 : Int32)) fun x3 =>
    fm_apply_175 n S2 v1 v2 v3 v4 v5 v6 v7 v8 x3)))
set_option maxRecDepth 100000 in
set_option maxHeartbeats 4000000 in
theorem wm_apply_175 (C : mY p R s m args meth c cX12_apply 11 8 194 none) (X : mX s cM iS cI cZ mo ad) : ∀ (n : Nat), ∀ {S : mSt} {v1 : Int32} {v2 : Int32} {v3 : Int32} {v4 : Int32} {v5 : Int32} {v6 : Int32} {v7 : Int32} {v8 : Int32} {v9 : Int32} {H : Heap} {locs : List Loc} {ls : Array Slot}, fm_apply_175 n S v1 v2 v3 v4 v5 v6 v7 v8 v9 = some S9 → mW cM iS cI cZ mo ad S H → mS (mA mo ad) s.heap H locs → lv_has ls 11 [(0, .ref mo), (1, .int v1), (2, .int v2), (3, .int v3), (4, .int v4), (5, .int v5), (6, .int v6), (7, .int v7), (8, .int v8), (9, .int v9)] → W p l e R s m args below meth c H locs 0 0 (MQ below (mQw none cM iS cI cZ mo ad S9) args s 0 0 (mA mo ad)) (F0 m 175 ls []) := by
  intro n
  induction n with
  | zero =>
    intro S v1 v2 v3 v4 v5 v6 v7 v8 v9 H locs ls h hW hS hl
    exact absurd (show (none : Option (mSt)) = _ from h) (fun q => by cases q)
  | succ n ih =>
    intro S v1 v2 v3 v4 v5 v6 v7 v8 v9 H locs ls h hW hS hl
    rw [fm_apply_175] at h
    refine lv_iload C.1 C.2.1 dX12_apply_175 (lv_at hl 9 rfl) ?_
    refine lv_aload_n C.1 C.2.1 dX12_apply_177 rfl (lv_at hl 0 rfl) ?_
    refine gf_54 C X hW dX12_apply_178 ?_
    refine lv_icmp_ge (tgt := 204) C.1 C.2.1 dX12_apply_181 (by decide) (fun c1 => ?_) (fun c1 => ?_)
    · have h := if_t h c1
      refine lv_goto (tgt := 218) C.1 C.2.1 dX12_apply_204 (by decide) ?_
      exact wm_apply_218 C X h hW hS (lv_sub hl [0, 1, 2, 3, 4, 5, 6, 7, 8] rfl)
    · have h := if_f h c1
      refine lv_aload_n C.1 C.2.1 dX12_apply_184 rfl (lv_at hl 0 rfl) ?_
      refine gf_64 C X hW dX12_apply_185 ?_
      refine lv_iload C.1 C.2.1 dX12_apply_188 (lv_at hl 9 rfl) ?_
      refine lv_aload_n C.1 C.2.1 dX12_apply_190 rfl (lv_at hl 0 rfl) ?_
      refine gf_56 C X hW dX12_apply_191 ?_
      refine lv_iload C.1 C.2.1 dX12_apply_194 (lv_at hl 9 rfl) ?_
      obtain ⟨hin, h⟩ := ck_ok h
      refine l_56 C X hW hin dX12_apply_196 ?_
      obtain ⟨hin, h⟩ := ck_ok h
      refine s_64 C X hW hS hin dX12_apply_197 (fun H locs hW hS => ?_)
      refine lt_ok h (fun S2 e_S2 h => ?_)
      rw [e_S2] at hW
      refine lt_ok h (fun x3 e_x3 h => ?_)
      refine lv_iinc (v := x3) (lv' := [(9, .int x3), (0, .ref mo), (1, .int v1), (2, .int v2), (3, .int v3), (4, .int v4), (5, .int v5), (6, .int v6), (7, .int v7), (8, .int v8)]) C.1 C.2.1 dX12_apply_198 hl (k := 9) rfl (by rw [← e_x3]; rfl) (by decide) rfl (fun ls hl => ?_)
      refine lv_goto (tgt := 175) C.1 C.2.1 dX12_apply_201 (by decide) ?_
      exact ih h hW hS (lv_sub hl [1, 2, 3, 4, 5, 6, 7, 8, 9, 0] rfl)
noncomputable def fm_apply_113 : Nat → mSt → Int32 → Int32 → Int32 → Int32 → Int32 → Int32 → Int32 → Int32 → Int32 → Option (mSt)
  | 0, _, _, _, _, _, _, _, _, _, _ => none
  | n + 1, S, v1, v2, v3, v4, v5, v6, v7, v8, v9 =>
    if (S.1 49) ≤ v9 then (
    fm_apply_218 S v1 v2 v3 v4 v5 v6 v7 v8)
    else (
    ck v9 1000 (
    ck v9 1000 (lt (wr S 62 v9 (rd S 50 v9)) fun S2 =>
    bd (fm_boundAt S2 v9) fun r3 =>
    ck v9 1000 (lt (wr S2 63 v9 r3) fun S4 =>
    lt (v9 + (1 : Int32)) fun x5 =>
    fm_apply_113 n S4 v1 v2 v3 v4 v5 v6 v7 v8 x5))))
set_option maxRecDepth 100000 in
set_option maxHeartbeats 4000000 in
theorem wm_apply_113 (C : mY p R s m args meth c cX12_apply 11 8 194 none) (X : mX s cM iS cI cZ mo ad) : ∀ (n : Nat), ∀ {S : mSt} {v1 : Int32} {v2 : Int32} {v3 : Int32} {v4 : Int32} {v5 : Int32} {v6 : Int32} {v7 : Int32} {v8 : Int32} {v9 : Int32} {H : Heap} {locs : List Loc} {ls : Array Slot}, fm_apply_113 n S v1 v2 v3 v4 v5 v6 v7 v8 v9 = some S9 → mW cM iS cI cZ mo ad S H → mS (mA mo ad) s.heap H locs → lv_has ls 11 [(0, .ref mo), (1, .int v1), (2, .int v2), (3, .int v3), (4, .int v4), (5, .int v5), (6, .int v6), (7, .int v7), (8, .int v8), (9, .int v9)] → W p l e R s m args below meth c H locs 0 0 (MQ below (mQw none cM iS cI cZ mo ad S9) args s 0 0 (mA mo ad)) (F0 m 113 ls []) := by
  intro n
  induction n with
  | zero =>
    intro S v1 v2 v3 v4 v5 v6 v7 v8 v9 H locs ls h hW hS hl
    exact absurd (show (none : Option (mSt)) = _ from h) (fun q => by cases q)
  | succ n ih =>
    intro S v1 v2 v3 v4 v5 v6 v7 v8 v9 H locs ls h hW hS hl
    rw [fm_apply_113] at h
    refine lv_iload C.1 C.2.1 dX12_apply_113 (lv_at hl 9 rfl) ?_
    refine lv_aload_n C.1 C.2.1 dX12_apply_115 rfl (lv_at hl 0 rfl) ?_
    refine gf_49 C X hW dX12_apply_116 ?_
    refine lv_icmp_ge (tgt := 155) C.1 C.2.1 dX12_apply_119 (by decide) (fun c1 => ?_) (fun c1 => ?_)
    · have h := if_t h c1
      refine lv_goto (tgt := 218) C.1 C.2.1 dX12_apply_155 (by decide) ?_
      exact wm_apply_218 C X h hW hS (lv_sub hl [0, 1, 2, 3, 4, 5, 6, 7, 8] rfl)
    · have h := if_f h c1
      refine lv_aload_n C.1 C.2.1 dX12_apply_122 rfl (lv_at hl 0 rfl) ?_
      refine gf_62 C X hW dX12_apply_123 ?_
      refine lv_iload C.1 C.2.1 dX12_apply_126 (lv_at hl 9 rfl) ?_
      refine lv_aload_n C.1 C.2.1 dX12_apply_128 rfl (lv_at hl 0 rfl) ?_
      refine gf_50 C X hW dX12_apply_129 ?_
      refine lv_iload C.1 C.2.1 dX12_apply_132 (lv_at hl 9 rfl) ?_
      obtain ⟨hin, h⟩ := ck_ok h
      refine l_50 C X hW hin dX12_apply_134 ?_
      obtain ⟨hin, h⟩ := ck_ok h
      refine s_62 C X hW hS hin dX12_apply_135 (fun H locs hW hS => ?_)
      refine lt_ok h (fun S2 e_S2 h => ?_)
      rw [e_S2] at hW
      refine lv_aload_n C.1 C.2.1 dX12_apply_136 rfl (lv_at hl 0 rfl) ?_
      refine gf_63 C X hW dX12_apply_137 ?_
      refine lv_iload C.1 C.2.1 dX12_apply_140 (lv_at hl 9 rfl) ?_
      refine lv_aload_n C.1 C.2.1 dX12_apply_142 rfl (lv_at hl 0 rfl) ?_
      refine lv_iload C.1 C.2.1 dX12_apply_143 (lv_at hl 9 rfl) ?_
      obtain ⟨r3, h_r3, h⟩ := bd_ok h
      refine m_callR (rest := [.int v9, .ref (ad 63)]) C X hW hl.1 [.int v9] (tm_boundAt l h_r3) mw_boundAt im_boundAt sl_boundAt rfl ⟨by decide, by decide⟩ rfl (Nat.le_of_ble_eq_true rfl) dX12_apply_145 ?_
      obtain ⟨hin, h⟩ := ck_ok h
      refine s_63 C X hW hS hin dX12_apply_148 (fun H locs hW hS => ?_)
      refine lt_ok h (fun S4 e_S4 h => ?_)
      rw [e_S4] at hW
      refine lt_ok h (fun x5 e_x5 h => ?_)
      refine lv_iinc (v := x5) (lv' := [(9, .int x5), (0, .ref mo), (1, .int v1), (2, .int v2), (3, .int v3), (4, .int v4), (5, .int v5), (6, .int v6), (7, .int v7), (8, .int v8)]) C.1 C.2.1 dX12_apply_149 hl (k := 9) rfl (by rw [← e_x5]; rfl) (by decide) rfl (fun ls hl => ?_)
      refine lv_goto (tgt := 113) C.1 C.2.1 dX12_apply_152 (by decide) ?_
      exact ih h hW hS (lv_sub hl [1, 2, 3, 4, 5, 6, 7, 8, 9, 0] rfl)
noncomputable def fm_apply_69 (S : mSt) (v1 : Int32) (v2 : Int32) (v3 : Int32) (v4 : Int32) (v5 : Int32) (s0 : Int32) : Option (mSt) :=
ck v1 4 (
lt (rd S 23 v1) fun x1 =>
if v5 = 0 then (
if v4 = (11 : Int32) then (
bd (fm_findParents S v1 x1) fun S6 =>
fm_apply_175 mFU S6 v1 v2 v3 v4 v5 s0 x1 (0 : Int32) (0 : Int32))
else (
bd (fm_isThere S v1 s0 x1) fun q_r5 => lt q_r5.1 fun r5 => lt q_r5.2 fun S4 =>
fm_apply_218 S4 v1 v2 v3 v4 v5 s0 x1 r5))
else (
ck v3 1000 (
bd (fm_look S v1 x1 s0 (rd S 11 v3)) fun S7 =>
lt (pu S7 61 (S7.1 49)) fun S8 =>
fm_apply_113 mFU S8 v1 v2 v3 v4 v5 s0 x1 (0 : Int32) (0 : Int32))))
set_option maxRecDepth 100000 in
set_option maxHeartbeats 4000000 in
theorem wm_apply_69 (C : mY p R s m args meth c cX12_apply 11 8 194 none) (X : mX s cM iS cI cZ mo ad) : ∀ {S : mSt} {v1 : Int32} {v2 : Int32} {v3 : Int32} {v4 : Int32} {v5 : Int32} {s0 : Int32} {H : Heap} {locs : List Loc} {ls : Array Slot}, fm_apply_69 S v1 v2 v3 v4 v5 s0 = some S9 → mW cM iS cI cZ mo ad S H → mS (mA mo ad) s.heap H locs → lv_has ls 11 [(0, .ref mo), (1, .int v1), (2, .int v2), (3, .int v3), (4, .int v4), (5, .int v5)] → W p l e R s m args below meth c H locs 0 0 (MQ below (mQw none cM iS cI cZ mo ad S9) args s 0 0 (mA mo ad)) (F0 m 69 ls [.int s0]) := by
  intro S v1 v2 v3 v4 v5 s0 H locs ls h hW hS hl
  unfold fm_apply_69 at h
  refine lv_istore (lv' := [(6, .int s0), (0, .ref mo), (1, .int v1), (2, .int v2), (3, .int v3), (4, .int v4), (5, .int v5)]) C.1 C.2.1 dX12_apply_69 hl (by decide) rfl (fun ls hl => ?_)
  refine lv_aload_n C.1 C.2.1 dX12_apply_71 rfl (lv_at hl 1 rfl) ?_
  refine gf_23 C X hW dX12_apply_72 ?_
  refine lv_iload_n C.1 C.2.1 dX12_apply_75 rfl (lv_at hl 2 rfl) ?_
  obtain ⟨hin, h⟩ := ck_ok h
  refine l_23 C X hW hin dX12_apply_76 ?_
  refine lt_ok h (fun x1 e_x1 h => ?_)
  refine lv_nm e_x1 ?_
  refine lv_istore (lv' := [(7, .int x1), (6, .int s0), (0, .ref mo), (1, .int v1), (2, .int v2), (3, .int v3), (4, .int v4), (5, .int v5)]) C.1 C.2.1 dX12_apply_77 hl (by decide) rfl (fun ls hl => ?_)
  refine lv_iconst (v := 0) C.1 C.2.1 dX12_apply_79 (by decide) ?_
  refine lv_istore (lv' := [(8, .int (0 : Int32)), (7, .int x1), (6, .int s0), (0, .ref mo), (1, .int v1), (2, .int v2), (3, .int v3), (4, .int v4), (5, .int v5)]) C.1 C.2.1 dX12_apply_80 hl (by decide) rfl (fun ls hl => ?_)
  refine lv_iload C.1 C.2.1 dX12_apply_82 (lv_at hl 8 rfl) ?_
  refine lv_if_eq (tgt := 158) C.1 C.2.1 dX12_apply_84 (by decide) (fun c2 => ?_) (fun c2 => ?_)
  · have h := if_t h c2
    refine lv_iload C.1 C.2.1 dX12_apply_158 (lv_at hl 7 rfl) ?_
    refine lv_bipush (v := 11) C.1 C.2.1 dX12_apply_160 (by decide) ?_
    refine lv_icmp_ne (tgt := 207) C.1 C.2.1 dX12_apply_162 (by decide) (fun c3 => ?_) (fun c3 => ?_)
    · have h := if_f h c3
      refine lv_aload_n C.1 C.2.1 dX12_apply_207 rfl (lv_at hl 3 rfl) ?_
      refine lv_iload_n C.1 C.2.1 dX12_apply_208 rfl (lv_at hl 4 rfl) ?_
      refine lv_iload C.1 C.2.1 dX12_apply_209 (lv_at hl 2 rfl) ?_
      refine lv_iload C.1 C.2.1 dX12_apply_211 (lv_at hl 1 rfl) ?_
      obtain ⟨⟨r5, S4⟩, h_S4, h⟩ := bd_ok h
      refine m_callW (rest := []) (ov := some (.int r5)) C X hW hS hl.1 [.int v1, .int s0, .int x1] (tm_isThere l h_S4) mw_isThere im_isThere sl_isThere rfl ⟨by decide, by decide⟩ rfl (Nat.le_of_ble_eq_true rfl) dX12_apply_213 (fun H locs hW hS => ?_)
      refine W.eq (g2 := F0 m 216 ls [.int r5]) rfl ?_
      refine lv_istore (lv' := [(8, .int r5), (7, .int x1), (6, .int s0), (0, .ref mo), (1, .int v1), (2, .int v2), (3, .int v3), (4, .int v4), (5, .int v5)]) C.1 C.2.1 dX12_apply_216 hl (by decide) rfl (fun ls hl => ?_)
      exact wm_apply_218 C X h hW hS (lv_sub hl [3, 4, 5, 6, 7, 8, 2, 1, 0] rfl)
    · have h := if_t h c3
      refine lv_aload_n C.1 C.2.1 dX12_apply_165 rfl (lv_at hl 3 rfl) ?_
      refine lv_iload_n C.1 C.2.1 dX12_apply_166 rfl (lv_at hl 4 rfl) ?_
      refine lv_iload C.1 C.2.1 dX12_apply_167 (lv_at hl 1 rfl) ?_
      obtain ⟨S6, h_S6, h⟩ := bd_ok h
      refine m_callW (rest := []) (ov := none) C X hW hS hl.1 [.int v1, .int x1] (tm_findParents l h_S6) mw_findParents im_findParents sl_findParents rfl ⟨by decide, by decide⟩ rfl (Nat.le_of_ble_eq_true rfl) dX12_apply_169 (fun H locs hW hS => ?_)
      refine W.eq (g2 := F0 m 172 ls []) rfl ?_
      refine lv_iconst (v := 0) C.1 C.2.1 dX12_apply_172 (by decide) ?_
      refine lv_istore (lv' := [(9, .int (0 : Int32)), (8, .int (0 : Int32)), (7, .int x1), (6, .int s0), (0, .ref mo), (1, .int v1), (2, .int v2), (3, .int v3), (4, .int v4), (5, .int v5)]) C.1 C.2.1 dX12_apply_173 hl (by decide) rfl (fun ls hl => ?_)
      exact wm_apply_175 C X mFU h hW hS (lv_sub hl [4, 5, 6, 7, 8, 9, 3, 2, 1, 0] rfl)
  · have h := if_f h c2
    refine lv_aload_n C.1 C.2.1 dX12_apply_87 rfl (lv_at hl 3 rfl) ?_
    refine lv_iload_n C.1 C.2.1 dX12_apply_88 rfl (lv_at hl 4 rfl) ?_
    refine lv_iload C.1 C.2.1 dX12_apply_89 (lv_at hl 1 rfl) ?_
    refine lv_iload C.1 C.2.1 dX12_apply_91 (lv_at hl 2 rfl) ?_
    refine lv_aload_n C.1 C.2.1 dX12_apply_93 rfl (lv_at hl 3 rfl) ?_
    refine gf_11 C X hW dX12_apply_94 ?_
    refine lv_iload_n C.1 C.2.1 dX12_apply_97 rfl (lv_at hl 6 rfl) ?_
    obtain ⟨hin, h⟩ := ck_ok h
    refine l_11 C X hW hin dX12_apply_98 ?_
    obtain ⟨S7, h_S7, h⟩ := bd_ok h
    refine m_callW (rest := []) (ov := none) C X hW hS hl.1 [.int v1, .int x1, .int s0, .int (rd S 11 v3)] (tm_look l h_S7) mw_look im_look sl_look rfl ⟨by decide, by decide⟩ rfl (Nat.le_of_ble_eq_true rfl) dX12_apply_99 (fun H locs hW hS => ?_)
    refine W.eq (g2 := F0 m 102 ls []) rfl ?_
    refine lv_aload_n C.1 C.2.1 dX12_apply_102 rfl (lv_at hl 3 rfl) ?_
    refine lv_aload_n C.1 C.2.1 dX12_apply_103 rfl (lv_at hl 3 rfl) ?_
    refine gf_49 C X hW dX12_apply_104 ?_
    refine p_61 C X hW hS dX12_apply_107 (fun H locs hW hS => ?_)
    refine lt_ok h (fun S8 e_S8 h => ?_)
    rw [e_S8] at hW
    refine lv_iconst (v := 0) C.1 C.2.1 dX12_apply_110 (by decide) ?_
    refine lv_istore (lv' := [(9, .int (0 : Int32)), (8, .int (0 : Int32)), (7, .int x1), (6, .int s0), (0, .ref mo), (1, .int v1), (2, .int v2), (3, .int v3), (4, .int v4), (5, .int v5)]) C.1 C.2.1 dX12_apply_111 hl (by decide) rfl (fun ls hl => ?_)
    exact wm_apply_113 C X mFU h hW hS (lv_sub hl [4, 5, 6, 7, 8, 9, 3, 2, 1, 0] rfl)
noncomputable def fm_apply_35 (S : mSt) (v1 : Int32) (v2 : Int32) (s0 : Int32) : Option (mSt) :=
ck s0 1000 (
lt (rd S 9 s0) fun x1 =>
bd (fm_isOnPart x1) fun r2 =>
if x1 = 0 then (
bd (fm_nameOf s0) fun r4 =>
fm_apply_69 S v1 v2 s0 x1 r2 r4)
else (
ck s0 1000 (
fm_apply_69 S v1 v2 s0 x1 r2 (rd S 10 s0))))
set_option maxRecDepth 100000 in
set_option maxHeartbeats 4000000 in
theorem wm_apply_35 (C : mY p R s m args meth c cX12_apply 11 8 194 none) (X : mX s cM iS cI cZ mo ad) : ∀ {S : mSt} {v1 : Int32} {v2 : Int32} {s0 : Int32} {H : Heap} {locs : List Loc} {ls : Array Slot}, fm_apply_35 S v1 v2 s0 = some S9 → mW cM iS cI cZ mo ad S H → mS (mA mo ad) s.heap H locs → lv_has ls 11 [(0, .ref mo), (1, .int v1), (2, .int v2)] → W p l e R s m args below meth c H locs 0 0 (MQ below (mQw none cM iS cI cZ mo ad S9) args s 0 0 (mA mo ad)) (F0 m 35 ls [.int s0]) := by
  intro S v1 v2 s0 H locs ls h hW hS hl
  unfold fm_apply_35 at h
  refine lv_istore_n (lv' := [(3, .int s0), (0, .ref mo), (1, .int v1), (2, .int v2)]) C.1 C.2.1 dX12_apply_35 rfl hl (by decide) rfl (fun ls hl => ?_)
  refine lv_aload_n C.1 C.2.1 dX12_apply_36 rfl (lv_at hl 1 rfl) ?_
  refine gf_9 C X hW dX12_apply_37 ?_
  refine lv_iload_n C.1 C.2.1 dX12_apply_40 rfl (lv_at hl 0 rfl) ?_
  obtain ⟨hin, h⟩ := ck_ok h
  refine l_9 C X hW hin dX12_apply_41 ?_
  refine lt_ok h (fun x1 e_x1 h => ?_)
  refine lv_nm e_x1 ?_
  refine lv_istore (lv' := [(4, .int x1), (3, .int s0), (0, .ref mo), (1, .int v1), (2, .int v2)]) C.1 C.2.1 dX12_apply_42 hl (by decide) rfl (fun ls hl => ?_)
  refine lv_iload C.1 C.2.1 dX12_apply_44 (lv_at hl 0 rfl) ?_
  obtain ⟨r2, h_r2, h⟩ := bd_ok h
  refine m_callS (rest := []) C hl.1 [.int x1] (tm_isOnPart l h_r2) mw_isOnPart st_isOnPart rfl ⟨by decide, by decide⟩ rfl (Nat.le_of_ble_eq_true rfl) dX12_apply_46 ?_
  refine lv_istore (lv' := [(5, .int r2), (4, .int x1), (3, .int s0), (0, .ref mo), (1, .int v1), (2, .int v2)]) C.1 C.2.1 dX12_apply_49 hl (by decide) rfl (fun ls hl => ?_)
  refine lv_iload C.1 C.2.1 dX12_apply_51 (lv_at hl 1 rfl) ?_
  refine lv_if_ne (tgt := 63) C.1 C.2.1 dX12_apply_53 (by decide) (fun c3 => ?_) (fun c3 => ?_)
  · have h := if_f h c3
    refine lv_aload_n C.1 C.2.1 dX12_apply_63 rfl (lv_at hl 3 rfl) ?_
    refine gf_10 C X hW dX12_apply_64 ?_
    refine lv_iload_n C.1 C.2.1 dX12_apply_67 rfl (lv_at hl 2 rfl) ?_
    obtain ⟨hin, h⟩ := ck_ok h
    refine l_10 C X hW hin dX12_apply_68 ?_
    exact wm_apply_69 C X h hW hS (lv_sub hl [3, 4, 5, 2, 1, 0] rfl)
  · have h := if_t h c3
    refine lv_iload_n C.1 C.2.1 dX12_apply_56 rfl (lv_at hl 2 rfl) ?_
    obtain ⟨r4, h_r4, h⟩ := bd_ok h
    refine m_callS (rest := []) C hl.1 [.int s0] (tm_nameOf l h_r4) mw_nameOf st_nameOf rfl ⟨by decide, by decide⟩ rfl (Nat.le_of_ble_eq_true rfl) dX12_apply_57 ?_
    refine lv_goto (tgt := 69) C.1 C.2.1 dX12_apply_60 (by decide) ?_
    exact wm_apply_69 C X h hW hS (lv_sub hl [3, 4, 5, 2, 1, 0] rfl)
noncomputable def fm_apply_22 (S : mSt) (v1 : Int32) (v2 : Int32) : Option (mSt) :=
ck v2 1000 (
bd (fm_rowOf (rd S 13 v2)) fun r1 =>
fm_apply_35 S v1 v2 r1)
set_option maxRecDepth 100000 in
set_option maxHeartbeats 4000000 in
theorem wm_apply_22 (C : mY p R s m args meth c cX12_apply 11 8 194 none) (X : mX s cM iS cI cZ mo ad) : ∀ {S : mSt} {v1 : Int32} {v2 : Int32} {H : Heap} {locs : List Loc} {ls : Array Slot}, fm_apply_22 S v1 v2 = some S9 → mW cM iS cI cZ mo ad S H → mS (mA mo ad) s.heap H locs → lv_has ls 11 [(0, .ref mo), (1, .int v1), (2, .int v2)] → W p l e R s m args below meth c H locs 0 0 (MQ below (mQw none cM iS cI cZ mo ad S9) args s 0 0 (mA mo ad)) (F0 m 22 ls []) := by
  intro S v1 v2 H locs ls h hW hS hl
  unfold fm_apply_22 at h
  refine lv_aload_n C.1 C.2.1 dX12_apply_22 rfl (lv_at hl 0 rfl) ?_
  refine gf_13 C X hW dX12_apply_23 ?_
  refine lv_iload_n C.1 C.2.1 dX12_apply_26 rfl (lv_at hl 2 rfl) ?_
  obtain ⟨hin, h⟩ := ck_ok h
  refine l_13 C X hW hin dX12_apply_27 ?_
  obtain ⟨r1, h_r1, h⟩ := bd_ok h
  refine m_callS (rest := []) C hl.1 [.int (rd S 13 v2)] (tm_rowOf l h_r1) mw_rowOf st_rowOf rfl ⟨by decide, by decide⟩ rfl (Nat.le_of_ble_eq_true rfl) dX12_apply_28 ?_
  refine lv_goto (tgt := 35) C.1 C.2.1 dX12_apply_31 (by decide) ?_
  exact wm_apply_35 C X h hW hS (lv_sub hl [0, 1, 2] rfl)
noncomputable def fm_apply (S : mSt) (v1 : Int32) (v2 : Int32) : Option (mSt) :=
ck v2 1000 (
if (rd S 9 v2) = (13 : Int32) then (
fm_apply_22 S v1 v2)
else (
ck v2 1000 (
if (rd S 9 v2) = (14 : Int32) then (
fm_apply_22 S v1 v2)
else (
fm_apply_35 S v1 v2 v2))))
set_option maxRecDepth 100000 in
set_option maxHeartbeats 4000000 in
theorem tm_apply (l : Launch) {cM : ClassId} {iS : Nat → Nat} {cI cZ : ClassId} {mo : Nat} {ad : Nat → Nat} {S : mSt} {v1 : Int32} {v2 : Int32} {S9 : mSt} (h : fm_apply S v1 v2 = some S9) : Met l yX12_apply (Cond.code yX12_apply cX12_apply 11 none :: lw_g) { frames := 8, cells := 0, slots := 0, locals := 194 } (mPi [.int v1, .int v2] cM iS cI cZ mo ad S) (mQw none cM iS cI cZ mo ad S9) 0 0 (mA mo ad) := by
  refine Met.ofW (cc := cX12_apply) (maxL := 11) (ret := none) (by decide) rfl ?_
  intro p e s m args below meth c s₁ B hml hv
  obtain ⟨rfl, hW, X⟩ := hv
  have C : mY p (headSpec (Cond.code yX12_apply cX12_apply 11 none :: lw_g) { frames := 8, cells := 0, slots := 0, locals := 194 }).room s m _ meth c cX12_apply 11 8 194 none := ⟨B.exec, B.bytes, hml, findClass_of_methodNamed B.named, fun w hw => atoms_spec (ws := Cond.code yX12_apply cX12_apply 11 none :: lw_g) B.pre w (List.mem_cons_of_mem _ hw), ⟨Nat.le_refl _, Nat.le_refl _⟩, B.returns, B.notSynchronized⟩
  have hl := lv_entry ([.ref mo, .int v1, .int v2]) (n := 11) (Nat.le_of_ble_eq_true rfl)
  rw [lg_entry_eq]
  generalize (lg_sl ([.ref mo, .int v1, .int v2]) ++ List.replicate (11 - (lg_sl ([.ref mo, .int v1, .int v2])).length) Slot.unset).toArray = ls at hl ⊢
  have hl : lv_has ls 11 [(0, .ref mo), (1, .int v1), (2, .int v2)] := hl
  have hS : mS (mA mo ad) s.heap s.heap [] := mS.rf
  unfold fm_apply at h
  refine lv_aload_n C.1 C.2.1 dX12_apply_0 rfl (lv_at hl 0 rfl) ?_
  refine gf_9 C X hW dX12_apply_1 ?_
  refine lv_iload_n C.1 C.2.1 dX12_apply_4 rfl (lv_at hl 2 rfl) ?_
  obtain ⟨hin, h⟩ := ck_ok h
  refine l_9 C X hW hin dX12_apply_5 ?_
  refine lv_bipush (v := 13) C.1 C.2.1 dX12_apply_6 (by decide) ?_
  refine lv_icmp_eq (tgt := 22) C.1 C.2.1 dX12_apply_8 (by decide) (fun c1 => ?_) (fun c1 => ?_)
  · have h := if_t h c1
    exact wm_apply_22 C X h hW hS (lv_sub hl [0, 1, 2] rfl)
  · have h := if_f h c1
    refine lv_aload_n C.1 C.2.1 dX12_apply_11 rfl (lv_at hl 0 rfl) ?_
    refine gf_9 C X hW dX12_apply_12 ?_
    refine lv_iload_n C.1 C.2.1 dX12_apply_15 rfl (lv_at hl 2 rfl) ?_
    obtain ⟨hin, h⟩ := ck_ok h
    refine l_9 C X hW hin dX12_apply_16 ?_
    refine lv_bipush (v := 14) C.1 C.2.1 dX12_apply_17 (by decide) ?_
    refine lv_icmp_ne (tgt := 34) C.1 C.2.1 dX12_apply_19 (by decide) (fun c2 => ?_) (fun c2 => ?_)
    · have h := if_f h c2
      refine lv_iload_n C.1 C.2.1 dX12_apply_34 rfl (lv_at hl 2 rfl) ?_
      exact wm_apply_35 C X h hW hS (lv_sub hl [0, 1, 2] rfl)
    · have h := if_t h c2
      exact wm_apply_22 C X h hW hS (lv_sub hl [0, 1, 2] rfl)
end
theorem dX12_isReady_0 : decode cX12_isReady 0 = .ok (.iload_n 2, 1) := by decide +kernel
theorem dX12_isReady_1 : decode cX12_isReady 1 = .ok (.invokestatic 223, 3) := by decide +kernel
theorem dX12_isReady_4 : decode cX12_isReady 4 = .ok (.aload_n 0, 1) := by decide +kernel
theorem dX12_isReady_5 : decode cX12_isReady 5 = .ok (.iload_n 1, 1) := by decide +kernel
theorem dX12_isReady_6 : decode cX12_isReady 6 = .ok (.iload_n 2, 1) := by decide +kernel
theorem dX12_isReady_7 : decode cX12_isReady 7 = .ok (.invokestatic 219, 3) := by decide +kernel
theorem dX12_isReady_10 : decode cX12_isReady 10 = .ok (.invokevirtual 226, 3) := by decide +kernel
theorem dX12_isReady_13 : decode cX12_isReady 13 = .ok (.iconst 1, 1) := by decide +kernel
theorem dX12_isReady_14 : decode cX12_isReady 14 = .ok (.iadd, 1) := by decide +kernel
theorem dX12_isReady_15 : decode cX12_isReady 15 = .ok (.if_icmp .ne 7, 3) := by decide +kernel
theorem dX12_isReady_18 : decode cX12_isReady 18 = .ok (.iconst 1, 1) := by decide +kernel
theorem dX12_isReady_19 : decode cX12_isReady 19 = .ok (.goto 4, 3) := by decide +kernel
theorem dX12_isReady_22 : decode cX12_isReady 22 = .ok (.iconst 0, 1) := by decide +kernel
theorem dX12_isReady_23 : decode cX12_isReady 23 = .ok (.istore_n 3, 1) := by decide +kernel
theorem dX12_isReady_24 : decode cX12_isReady 24 = .ok (.iconst 0, 1) := by decide +kernel
theorem dX12_isReady_25 : decode cX12_isReady 25 = .ok (.istore 4, 2) := by decide +kernel
theorem dX12_isReady_27 : decode cX12_isReady 27 = .ok (.iload 4, 2) := by decide +kernel
theorem dX12_isReady_29 : decode cX12_isReady 29 = .ok (.iconst 4, 1) := by decide +kernel
theorem dX12_isReady_30 : decode cX12_isReady 30 = .ok (.if_icmp .ge 40, 3) := by decide +kernel
theorem dX12_isReady_33 : decode cX12_isReady 33 = .ok (.iload_n 3, 1) := by decide +kernel
theorem dX12_isReady_34 : decode cX12_isReady 34 = .ok (.ifCond .eq 28, 3) := by decide +kernel
theorem dX12_isReady_37 : decode cX12_isReady 37 = .ok (.aload_n 0, 1) := by decide +kernel
theorem dX12_isReady_38 : decode cX12_isReady 38 = .ok (.iload_n 1, 1) := by decide +kernel
theorem dX12_isReady_39 : decode cX12_isReady 39 = .ok (.iload 4, 2) := by decide +kernel
theorem dX12_isReady_41 : decode cX12_isReady 41 = .ok (.invokevirtual 226, 3) := by decide +kernel
theorem dX12_isReady_44 : decode cX12_isReady 44 = .ok (.aload_n 0, 1) := by decide +kernel
theorem dX12_isReady_45 : decode cX12_isReady 45 = .ok (.getfield 50, 3) := by decide +kernel
theorem dX12_isReady_48 : decode cX12_isReady 48 = .ok (.iconst 4, 1) := by decide +kernel
theorem dX12_isReady_49 : decode cX12_isReady 49 = .ok (.iload_n 2, 1) := by decide +kernel
theorem dX12_isReady_50 : decode cX12_isReady 50 = .ok (.imul, 1) := by decide +kernel
theorem dX12_isReady_51 : decode cX12_isReady 51 = .ok (.iload 4, 2) := by decide +kernel
theorem dX12_isReady_53 : decode cX12_isReady 53 = .ok (.iadd, 1) := by decide +kernel
theorem dX12_isReady_54 : decode cX12_isReady 54 = .ok (.iaload, 1) := by decide +kernel
theorem dX12_isReady_55 : decode cX12_isReady 55 = .ok (.if_icmp .lt 7, 3) := by decide +kernel
theorem dX12_isReady_58 : decode cX12_isReady 58 = .ok (.iconst 1, 1) := by decide +kernel
theorem dX12_isReady_59 : decode cX12_isReady 59 = .ok (.goto 4, 3) := by decide +kernel
theorem dX12_isReady_62 : decode cX12_isReady 62 = .ok (.iconst 0, 1) := by decide +kernel
theorem dX12_isReady_63 : decode cX12_isReady 63 = .ok (.istore_n 3, 1) := by decide +kernel
theorem dX12_isReady_64 : decode cX12_isReady 64 = .ok (.iinc 4 1, 3) := by decide +kernel
theorem dX12_isReady_67 : decode cX12_isReady 67 = .ok (.goto (-40), 3) := by decide +kernel
theorem dX12_isReady_70 : decode cX12_isReady 70 = .ok (.iload_n 3, 1) := by decide +kernel
theorem dX12_isReady_71 : decode cX12_isReady 71 = .ok (.ireturn, 1) := by decide +kernel
theorem cd_isReady : Cond.code yX12_isReady cX12_isReady 5 (some .boolean) ∈ lw_g := mt_at 2276 (by decide +kernel) rfl
theorem mw_isReady : mCw 464 yX12_isReady cX12_isReady 5 (some .boolean) 2 := ⟨cd_isReady, mt_at 2273 (by decide +kernel) rfl, in_M, by decide +kernel⟩
theorem im_isReady : Cond.instanceMethod yX12_isReady ∈ lw_g := mt_at 2275 (by decide +kernel) rfl
theorem sl_isReady : Cond.selects RX12 yX12_isReady yX12_isReady ∈ lw_g := mt_sel 103 (by decide +kernel) rfl
section
variable {p : Program} {l : Launch} {e : Env} {R : Room} {s : State} {m : MethodId} {args : Array Value} {below : List Frame} {meth : Method} {c : Code} {cM : ClassId} {iS : Nat → Nat} {cI cZ : ClassId} {mo : Nat} {ad : Nat → Nat} {S : mSt} {r : Int32}
noncomputable def fm_isReady_63 (g_27 : Int32 → Int32 → Int32 → Int32 → Option (Int32)) (S : mSt) (v1 : Int32) (v2 : Int32) (v4 : Int32) (s0 : Int32) : Option (Int32) :=
lt (v4 + (1 : Int32)) fun x1 =>
g_27 v1 v2 s0 x1
set_option maxRecDepth 100000 in
set_option maxHeartbeats 4000000 in
theorem wm_isReady_63 (C : mY p R s m args meth c cX12_isReady 5 1 22 (some .boolean)) (X : mX s cM iS cI cZ mo ad) (hW : mW cM iS cI cZ mo ad S s.heap) {g_27 : Int32 → Int32 → Int32 → Int32 → Option (Int32)} (hg_27 : ∀ {v1 : Int32} {v2 : Int32} {v3 : Int32} {v4 : Int32} {ls : Array Slot}, g_27 v1 v2 v3 v4 = some r → lv_has ls 5 [(0, .ref mo), (1, .int v1), (2, .int v2), (3, .int v3), (4, .int v4)] → W p l e R s m args below meth c s.heap [] 0 0 (MQ below (mQi r) args s 0 0 mNo) (F0 m 27 ls [])) : ∀ {v1 : Int32} {v2 : Int32} {v4 : Int32} {s0 : Int32} {ls : Array Slot}, fm_isReady_63 g_27 S v1 v2 v4 s0 = some r → lv_has ls 5 [(0, .ref mo), (1, .int v1), (2, .int v2), (4, .int v4)] → W p l e R s m args below meth c s.heap [] 0 0 (MQ below (mQi r) args s 0 0 mNo) (F0 m 63 ls [.int s0]) := by
  intro v1 v2 v4 s0 ls h hl
  unfold fm_isReady_63 at h
  refine lv_istore_n (lv' := [(3, .int s0), (0, .ref mo), (1, .int v1), (2, .int v2), (4, .int v4)]) C.1 C.2.1 dX12_isReady_63 rfl hl (by decide) rfl (fun ls hl => ?_)
  refine lt_ok h (fun x1 e_x1 h => ?_)
  refine lv_iinc (v := x1) (lv' := [(4, .int x1), (3, .int s0), (0, .ref mo), (1, .int v1), (2, .int v2)]) C.1 C.2.1 dX12_isReady_64 hl (k := 4) rfl (by rw [← e_x1]; rfl) (by decide) rfl (fun ls hl => ?_)
  refine lv_goto (tgt := 27) C.1 C.2.1 dX12_isReady_67 (by decide) ?_
  exact hg_27 h (lv_sub hl [2, 3, 4, 1, 0] rfl)
noncomputable def fm_isReady_62 (g_27 : Int32 → Int32 → Int32 → Int32 → Option (Int32)) (S : mSt) (v1 : Int32) (v2 : Int32) (v4 : Int32) : Option (Int32) :=
fm_isReady_63 g_27 S v1 v2 v4 (0 : Int32)
set_option maxRecDepth 100000 in
set_option maxHeartbeats 4000000 in
theorem wm_isReady_62 (C : mY p R s m args meth c cX12_isReady 5 1 22 (some .boolean)) (X : mX s cM iS cI cZ mo ad) (hW : mW cM iS cI cZ mo ad S s.heap) {g_27 : Int32 → Int32 → Int32 → Int32 → Option (Int32)} (hg_27 : ∀ {v1 : Int32} {v2 : Int32} {v3 : Int32} {v4 : Int32} {ls : Array Slot}, g_27 v1 v2 v3 v4 = some r → lv_has ls 5 [(0, .ref mo), (1, .int v1), (2, .int v2), (3, .int v3), (4, .int v4)] → W p l e R s m args below meth c s.heap [] 0 0 (MQ below (mQi r) args s 0 0 mNo) (F0 m 27 ls [])) : ∀ {v1 : Int32} {v2 : Int32} {v4 : Int32} {ls : Array Slot}, fm_isReady_62 g_27 S v1 v2 v4 = some r → lv_has ls 5 [(0, .ref mo), (1, .int v1), (2, .int v2), (4, .int v4)] → W p l e R s m args below meth c s.heap [] 0 0 (MQ below (mQi r) args s 0 0 mNo) (F0 m 62 ls []) := by
  intro v1 v2 v4 ls h hl
  unfold fm_isReady_62 at h
  refine lv_iconst (v := 0) C.1 C.2.1 dX12_isReady_62 (by decide) ?_
  exact wm_isReady_63 C X hW hg_27 h (lv_sub hl [0, 1, 2, 3] rfl)
noncomputable def fm_isReady_27 (S : mSt) : Nat → Int32 → Int32 → Int32 → Int32 → Option (Int32)
  | 0, _, _, _, _ => none
  | n + 1, v1, v2, v3, v4 =>
    if (4 : Int32) ≤ v4 then (
    ckz v3 (some v3))
    else (
    if v3 = 0 then (
    fm_isReady_62 (fm_isReady_27 S n) S v1 v2 v4)
    else (
    bd (fm_knownOf S v1 v4) fun r3 =>
    ck (((4 : Int32) * v2) + v4) 4000 (
    if r3 < (rd S 16 (((4 : Int32) * v2) + v4)) then (
    fm_isReady_62 (fm_isReady_27 S n) S v1 v2 v4)
    else (
    fm_isReady_63 (fm_isReady_27 S n) S v1 v2 v4 (1 : Int32)))))
set_option maxRecDepth 100000 in
set_option maxHeartbeats 4000000 in
theorem wm_isReady_27 (C : mY p R s m args meth c cX12_isReady 5 1 22 (some .boolean)) (X : mX s cM iS cI cZ mo ad) (hW : mW cM iS cI cZ mo ad S s.heap) : ∀ (n : Nat), ∀ {v1 : Int32} {v2 : Int32} {v3 : Int32} {v4 : Int32} {ls : Array Slot}, fm_isReady_27 S n v1 v2 v3 v4 = some r → lv_has ls 5 [(0, .ref mo), (1, .int v1), (2, .int v2), (3, .int v3), (4, .int v4)] → W p l e R s m args below meth c s.heap [] 0 0 (MQ below (mQi r) args s 0 0 mNo) (F0 m 27 ls []) := by
  intro n
  induction n with
  | zero =>
    intro v1 v2 v3 v4 ls h hl
    exact absurd (show (none : Option (Int32)) = _ from h) (fun q => by cases q)
  | succ n ih =>
    intro v1 v2 v3 v4 ls h hl
    rw [fm_isReady_27] at h
    refine lv_iload C.1 C.2.1 dX12_isReady_27 (lv_at hl 4 rfl) ?_
    refine lv_iconst (v := 4) C.1 C.2.1 dX12_isReady_29 (by decide) ?_
    refine lv_icmp_ge (tgt := 70) C.1 C.2.1 dX12_isReady_30 (by decide) (fun c1 => ?_) (fun c1 => ?_)
    · have h := if_t h c1
      refine lv_iload_n C.1 C.2.1 dX12_isReady_70 rfl (lv_at hl 3 rfl) ?_
      obtain ⟨hzo, h⟩ := ckz_ok h
      cases h
      exact m_retz C hzo rfl rfl dX12_isReady_71
    · have h := if_f h c1
      refine lv_iload_n C.1 C.2.1 dX12_isReady_33 rfl (lv_at hl 3 rfl) ?_
      refine lv_if_eq (tgt := 62) C.1 C.2.1 dX12_isReady_34 (by decide) (fun c2 => ?_) (fun c2 => ?_)
      · have h := if_t h c2
        exact wm_isReady_62 C X hW ih h (lv_sub hl [0, 1, 2, 4] rfl)
      · have h := if_f h c2
        refine lv_aload_n C.1 C.2.1 dX12_isReady_37 rfl (lv_at hl 0 rfl) ?_
        refine lv_iload_n C.1 C.2.1 dX12_isReady_38 rfl (lv_at hl 1 rfl) ?_
        refine lv_iload C.1 C.2.1 dX12_isReady_39 (lv_at hl 4 rfl) ?_
        obtain ⟨r3, h_r3, h⟩ := bd_ok h
        refine m_callR (rest := []) C X hW hl.1 [.int v1, .int v4] (tm_knownOf l h_r3) mw_knownOf im_knownOf sl_knownOf rfl ⟨by decide, by decide⟩ rfl (Nat.le_of_ble_eq_true rfl) dX12_isReady_41 ?_
        refine lv_aload_n C.1 C.2.1 dX12_isReady_44 rfl (lv_at hl 0 rfl) ?_
        refine gf_16 C X hW dX12_isReady_45 ?_
        refine lv_iconst (v := 4) C.1 C.2.1 dX12_isReady_48 (by decide) ?_
        refine lv_iload_n C.1 C.2.1 dX12_isReady_49 rfl (lv_at hl 2 rfl) ?_
        refine lv_imul C.1 C.2.1 dX12_isReady_50 ?_
        refine lv_iload C.1 C.2.1 dX12_isReady_51 (lv_at hl 4 rfl) ?_
        refine lv_iadd C.1 C.2.1 dX12_isReady_53 ?_
        obtain ⟨hin, h⟩ := ck_ok h
        refine l_16 C X hW hin dX12_isReady_54 ?_
        refine lv_icmp_lt (tgt := 62) C.1 C.2.1 dX12_isReady_55 (by decide) (fun c4 => ?_) (fun c4 => ?_)
        · have h := if_t h c4
          exact wm_isReady_62 C X hW ih h (lv_sub hl [0, 1, 2, 4] rfl)
        · have h := if_f h c4
          refine lv_iconst (v := 1) C.1 C.2.1 dX12_isReady_58 (by decide) ?_
          refine lv_goto (tgt := 63) C.1 C.2.1 dX12_isReady_59 (by decide) ?_
          exact wm_isReady_63 C X hW ih h (lv_sub hl [0, 1, 2, 4] rfl)
noncomputable def fm_isReady_23 (S : mSt) (v1 : Int32) (v2 : Int32) (s0 : Int32) : Option (Int32) :=
fm_isReady_27 S mFU v1 v2 s0 (0 : Int32)
set_option maxRecDepth 100000 in
set_option maxHeartbeats 4000000 in
theorem wm_isReady_23 (C : mY p R s m args meth c cX12_isReady 5 1 22 (some .boolean)) (X : mX s cM iS cI cZ mo ad) (hW : mW cM iS cI cZ mo ad S s.heap) : ∀ {v1 : Int32} {v2 : Int32} {s0 : Int32} {ls : Array Slot}, fm_isReady_23 S v1 v2 s0 = some r → lv_has ls 5 [(0, .ref mo), (1, .int v1), (2, .int v2)] → W p l e R s m args below meth c s.heap [] 0 0 (MQ below (mQi r) args s 0 0 mNo) (F0 m 23 ls [.int s0]) := by
  intro v1 v2 s0 ls h hl
  unfold fm_isReady_23 at h
  refine lv_istore_n (lv' := [(3, .int s0), (0, .ref mo), (1, .int v1), (2, .int v2)]) C.1 C.2.1 dX12_isReady_23 rfl hl (by decide) rfl (fun ls hl => ?_)
  refine lv_iconst (v := 0) C.1 C.2.1 dX12_isReady_24 (by decide) ?_
  refine lv_istore (lv' := [(4, .int (0 : Int32)), (3, .int s0), (0, .ref mo), (1, .int v1), (2, .int v2)]) C.1 C.2.1 dX12_isReady_25 hl (by decide) rfl (fun ls hl => ?_)
  exact wm_isReady_27 C X hW mFU h (lv_sub hl [2, 3, 4, 1, 0] rfl)
noncomputable def fm_isReady (S : mSt) (v1 : Int32) (v2 : Int32) : Option (Int32) :=
bd (fm_numberOf v2) fun r1 =>
bd (fm_nodeOf v2) fun r2 =>
bd (fm_knownOf S v1 r2) fun r3 =>
if r1 = (r3 + (1 : Int32)) then (
fm_isReady_23 S v1 v2 (1 : Int32))
else (
fm_isReady_23 S v1 v2 (0 : Int32))
set_option maxRecDepth 100000 in
set_option maxHeartbeats 4000000 in
theorem tm_isReady (l : Launch) {cM : ClassId} {iS : Nat → Nat} {cI cZ : ClassId} {mo : Nat} {ad : Nat → Nat} {S : mSt} {v1 : Int32} {v2 : Int32} {r : Int32} (h : fm_isReady S v1 v2 = some r) : Met l yX12_isReady (Cond.code yX12_isReady cX12_isReady 5 (some .boolean) :: lw_g) { frames := 1, cells := 0, slots := 0, locals := 22 } (mPi [.int v1, .int v2] cM iS cI cZ mo ad S) (mQi r) 0 0 (mNo) := by
  refine Met.ofW (cc := cX12_isReady) (maxL := 5) (ret := (some .boolean)) (by decide) rfl ?_
  intro p e s m args below meth c s₁ B hml hv
  obtain ⟨rfl, hW, X⟩ := hv
  have C : mY p (headSpec (Cond.code yX12_isReady cX12_isReady 5 (some .boolean) :: lw_g) { frames := 1, cells := 0, slots := 0, locals := 22 }).room s m _ meth c cX12_isReady 5 1 22 (some .boolean) := ⟨B.exec, B.bytes, hml, findClass_of_methodNamed B.named, fun w hw => atoms_spec (ws := Cond.code yX12_isReady cX12_isReady 5 (some .boolean) :: lw_g) B.pre w (List.mem_cons_of_mem _ hw), ⟨Nat.le_refl _, Nat.le_refl _⟩, B.returns, B.notSynchronized⟩
  have hl := lv_entry ([.ref mo, .int v1, .int v2]) (n := 5) (Nat.le_of_ble_eq_true rfl)
  rw [lg_entry_eq]
  generalize (lg_sl ([.ref mo, .int v1, .int v2]) ++ List.replicate (5 - (lg_sl ([.ref mo, .int v1, .int v2])).length) Slot.unset).toArray = ls at hl ⊢
  have hl : lv_has ls 5 [(0, .ref mo), (1, .int v1), (2, .int v2)] := hl
  unfold fm_isReady at h
  refine lv_iload_n C.1 C.2.1 dX12_isReady_0 rfl (lv_at hl 2 rfl) ?_
  obtain ⟨r1, h_r1, h⟩ := bd_ok h
  refine m_callS (rest := []) C hl.1 [.int v2] (tm_numberOf l h_r1) mw_numberOf st_numberOf rfl ⟨by decide, by decide⟩ rfl (Nat.le_of_ble_eq_true rfl) dX12_isReady_1 ?_
  refine lv_aload_n C.1 C.2.1 dX12_isReady_4 rfl (lv_at hl 0 rfl) ?_
  refine lv_iload_n C.1 C.2.1 dX12_isReady_5 rfl (lv_at hl 1 rfl) ?_
  refine lv_iload_n C.1 C.2.1 dX12_isReady_6 rfl (lv_at hl 2 rfl) ?_
  obtain ⟨r2, h_r2, h⟩ := bd_ok h
  refine m_callS (rest := [.int v1, .ref mo, .int r1]) C hl.1 [.int v2] (tm_nodeOf l h_r2) mw_nodeOf st_nodeOf rfl ⟨by decide, by decide⟩ rfl (Nat.le_of_ble_eq_true rfl) dX12_isReady_7 ?_
  obtain ⟨r3, h_r3, h⟩ := bd_ok h
  refine m_callR (rest := [.int r1]) C X hW hl.1 [.int v1, .int r2] (tm_knownOf l h_r3) mw_knownOf im_knownOf sl_knownOf rfl ⟨by decide, by decide⟩ rfl (Nat.le_of_ble_eq_true rfl) dX12_isReady_10 ?_
  refine lv_iconst (v := 1) C.1 C.2.1 dX12_isReady_13 (by decide) ?_
  refine lv_iadd C.1 C.2.1 dX12_isReady_14 ?_
  refine lv_icmp_ne (tgt := 22) C.1 C.2.1 dX12_isReady_15 (by decide) (fun c4 => ?_) (fun c4 => ?_)
  · have h := if_f h c4
    refine lv_iconst (v := 0) C.1 C.2.1 dX12_isReady_22 (by decide) ?_
    exact wm_isReady_23 C X hW h (lv_sub hl [0, 1, 2] rfl)
  · have h := if_t h c4
    refine lv_iconst (v := 1) C.1 C.2.1 dX12_isReady_18 (by decide) ?_
    refine lv_goto (tgt := 23) C.1 C.2.1 dX12_isReady_19 (by decide) ?_
    exact wm_isReady_23 C X hW h (lv_sub hl [0, 1, 2] rfl)
end
theorem dX12_ruleFor_0 : decode cX12_ruleFor 0 = .ok (.iload_n 0, 1) := by decide +kernel
theorem dX12_ruleFor_1 : decode cX12_ruleFor 1 = .ok (.iconst 1, 1) := by decide +kernel
theorem dX12_ruleFor_2 : decode cX12_ruleFor 2 = .ok (.if_icmp .ne 8, 3) := by decide +kernel
theorem dX12_ruleFor_5 : decode cX12_ruleFor 5 = .ok (.bipush 76, 2) := by decide +kernel
theorem dX12_ruleFor_7 : decode cX12_ruleFor 7 = .ok (.goto 58, 3) := by decide +kernel
theorem dX12_ruleFor_10 : decode cX12_ruleFor 10 = .ok (.iload_n 0, 1) := by decide +kernel
theorem dX12_ruleFor_11 : decode cX12_ruleFor 11 = .ok (.iconst 2, 1) := by decide +kernel
theorem dX12_ruleFor_12 : decode cX12_ruleFor 12 = .ok (.if_icmp .ne 8, 3) := by decide +kernel
theorem dX12_ruleFor_15 : decode cX12_ruleFor 15 = .ok (.bipush 83, 2) := by decide +kernel
theorem dX12_ruleFor_17 : decode cX12_ruleFor 17 = .ok (.goto 48, 3) := by decide +kernel
theorem dX12_ruleFor_20 : decode cX12_ruleFor 20 = .ok (.iload_n 0, 1) := by decide +kernel
theorem dX12_ruleFor_21 : decode cX12_ruleFor 21 = .ok (.iconst 3, 1) := by decide +kernel
theorem dX12_ruleFor_22 : decode cX12_ruleFor 22 = .ok (.if_icmp .ne 8, 3) := by decide +kernel
theorem dX12_ruleFor_25 : decode cX12_ruleFor 25 = .ok (.bipush 67, 2) := by decide +kernel
theorem dX12_ruleFor_27 : decode cX12_ruleFor 27 = .ok (.goto 38, 3) := by decide +kernel
theorem dX12_ruleFor_30 : decode cX12_ruleFor 30 = .ok (.iload_n 0, 1) := by decide +kernel
theorem dX12_ruleFor_31 : decode cX12_ruleFor 31 = .ok (.bipush 6, 2) := by decide +kernel
theorem dX12_ruleFor_33 : decode cX12_ruleFor 33 = .ok (.if_icmp .gt 8, 3) := by decide +kernel
theorem dX12_ruleFor_36 : decode cX12_ruleFor 36 = .ok (.bipush 66, 2) := by decide +kernel
theorem dX12_ruleFor_38 : decode cX12_ruleFor 38 = .ok (.goto 27, 3) := by decide +kernel
theorem dX12_ruleFor_41 : decode cX12_ruleFor 41 = .ok (.iload_n 0, 1) := by decide +kernel
theorem dX12_ruleFor_42 : decode cX12_ruleFor 42 = .ok (.bipush 8, 2) := by decide +kernel
theorem dX12_ruleFor_44 : decode cX12_ruleFor 44 = .ok (.if_icmp .gt 8, 3) := by decide +kernel
theorem dX12_ruleFor_47 : decode cX12_ruleFor 47 = .ok (.bipush 65, 2) := by decide +kernel
theorem dX12_ruleFor_49 : decode cX12_ruleFor 49 = .ok (.goto 16, 3) := by decide +kernel
theorem dX12_ruleFor_52 : decode cX12_ruleFor 52 = .ok (.iload_n 0, 1) := by decide +kernel
theorem dX12_ruleFor_53 : decode cX12_ruleFor 53 = .ok (.bipush 10, 2) := by decide +kernel
theorem dX12_ruleFor_55 : decode cX12_ruleFor 55 = .ok (.if_icmp .gt 8, 3) := by decide +kernel
theorem dX12_ruleFor_58 : decode cX12_ruleFor 58 = .ok (.bipush 84, 2) := by decide +kernel
theorem dX12_ruleFor_60 : decode cX12_ruleFor 60 = .ok (.goto 5, 3) := by decide +kernel
theorem dX12_ruleFor_63 : decode cX12_ruleFor 63 = .ok (.bipush 77, 2) := by decide +kernel
theorem dX12_ruleFor_65 : decode cX12_ruleFor 65 = .ok (.ireturn, 1) := by decide +kernel
theorem cd_ruleFor : Cond.code yX12_ruleFor cX12_ruleFor 1 (some .int) ∈ lw_g := mt_at 2001 (by decide +kernel) rfl
theorem mw_ruleFor : mCw 402 yX12_ruleFor cX12_ruleFor 1 (some .int) 1 := ⟨cd_ruleFor, mt_at 1999 (by decide +kernel) rfl, in_M, by decide +kernel⟩
theorem st_ruleFor : Cond.static yX12_ruleFor ∈ lw_g := mt_at 2000 (by decide +kernel) rfl
section
variable {p : Program} {l : Launch} {e : Env} {R : Room} {s : State} {m : MethodId} {args : Array Value} {below : List Frame} {meth : Method} {c : Code} {cM : ClassId} {iS : Nat → Nat} {cI cZ : ClassId} {mo : Nat} {ad : Nat → Nat} {r : Int32}
noncomputable def fm_ruleFor_65 (s0 : Int32) : Option (Int32) :=
some s0
set_option maxRecDepth 100000 in
set_option maxHeartbeats 4000000 in
theorem wm_ruleFor_65 (C : mY p R s m args meth c cX12_ruleFor 1 0 0 (some .int)) : ∀ {s0 : Int32} {ls : Array Slot}, fm_ruleFor_65 s0 = some r → lv_has ls 1 [] → W p l e R s m args below meth c s.heap [] 0 0 (MQ below (mQi r) args s 0 0 mNo) (F0 m 65 ls [.int s0]) := by
  intro s0 ls h hl
  unfold fm_ruleFor_65 at h
  cases h
  exact m_reti C rfl rfl dX12_ruleFor_65
noncomputable def fm_ruleFor (v0 : Int32) : Option (Int32) :=
if v0 = (1 : Int32) then (
fm_ruleFor_65 (76 : Int32))
else (
if v0 = (2 : Int32) then (
fm_ruleFor_65 (83 : Int32))
else (
if v0 = (3 : Int32) then (
fm_ruleFor_65 (67 : Int32))
else (
if (6 : Int32) < v0 then (
if (8 : Int32) < v0 then (
if (10 : Int32) < v0 then (
fm_ruleFor_65 (77 : Int32))
else (
fm_ruleFor_65 (84 : Int32)))
else (
fm_ruleFor_65 (65 : Int32)))
else (
fm_ruleFor_65 (66 : Int32)))))
set_option maxRecDepth 100000 in
set_option maxHeartbeats 4000000 in
theorem tm_ruleFor (l : Launch) {v0 : Int32} {r : Int32} (h : fm_ruleFor v0 = some r) : Met l yX12_ruleFor (Cond.code yX12_ruleFor cX12_ruleFor 1 (some .int) :: lw_g) { frames := 0, cells := 0, slots := 0, locals := 0 } (mPs [.int v0]) (mQi r) 0 0 (mNo) := by
  refine Met.ofW (cc := cX12_ruleFor) (maxL := 1) (ret := (some .int)) (by decide) rfl ?_
  intro p e s m args below meth c s₁ B hml hv
  obtain rfl := hv
  have C : mY p (headSpec (Cond.code yX12_ruleFor cX12_ruleFor 1 (some .int) :: lw_g) { frames := 0, cells := 0, slots := 0, locals := 0 }).room s m _ meth c cX12_ruleFor 1 0 0 (some .int) := ⟨B.exec, B.bytes, hml, findClass_of_methodNamed B.named, fun w hw => atoms_spec (ws := Cond.code yX12_ruleFor cX12_ruleFor 1 (some .int) :: lw_g) B.pre w (List.mem_cons_of_mem _ hw), ⟨Nat.le_refl _, Nat.le_refl _⟩, B.returns, B.notSynchronized⟩
  have hl := lv_entry ([.int v0]) (n := 1) (Nat.le_of_ble_eq_true rfl)
  rw [lg_entry_eq]
  generalize (lg_sl ([.int v0]) ++ List.replicate (1 - (lg_sl ([.int v0])).length) Slot.unset).toArray = ls at hl ⊢
  have hl : lv_has ls 1 [(0, .int v0)] := hl
  unfold fm_ruleFor at h
  refine lv_iload_n C.1 C.2.1 dX12_ruleFor_0 rfl (lv_at hl 0 rfl) ?_
  refine lv_iconst (v := 1) C.1 C.2.1 dX12_ruleFor_1 (by decide) ?_
  refine lv_icmp_ne (tgt := 10) C.1 C.2.1 dX12_ruleFor_2 (by decide) (fun c1 => ?_) (fun c1 => ?_)
  · have h := if_f h c1
    refine lv_iload_n C.1 C.2.1 dX12_ruleFor_10 rfl (lv_at hl 0 rfl) ?_
    refine lv_iconst (v := 2) C.1 C.2.1 dX12_ruleFor_11 (by decide) ?_
    refine lv_icmp_ne (tgt := 20) C.1 C.2.1 dX12_ruleFor_12 (by decide) (fun c2 => ?_) (fun c2 => ?_)
    · have h := if_f h c2
      refine lv_iload_n C.1 C.2.1 dX12_ruleFor_20 rfl (lv_at hl 0 rfl) ?_
      refine lv_iconst (v := 3) C.1 C.2.1 dX12_ruleFor_21 (by decide) ?_
      refine lv_icmp_ne (tgt := 30) C.1 C.2.1 dX12_ruleFor_22 (by decide) (fun c3 => ?_) (fun c3 => ?_)
      · have h := if_f h c3
        refine lv_iload_n C.1 C.2.1 dX12_ruleFor_30 rfl (lv_at hl 0 rfl) ?_
        refine lv_bipush (v := 6) C.1 C.2.1 dX12_ruleFor_31 (by decide) ?_
        refine lv_icmp_gt (tgt := 41) C.1 C.2.1 dX12_ruleFor_33 (by decide) (fun c4 => ?_) (fun c4 => ?_)
        · have h := if_t h c4
          refine lv_iload_n C.1 C.2.1 dX12_ruleFor_41 rfl (lv_at hl 0 rfl) ?_
          refine lv_bipush (v := 8) C.1 C.2.1 dX12_ruleFor_42 (by decide) ?_
          refine lv_icmp_gt (tgt := 52) C.1 C.2.1 dX12_ruleFor_44 (by decide) (fun c5 => ?_) (fun c5 => ?_)
          · have h := if_t h c5
            refine lv_iload_n C.1 C.2.1 dX12_ruleFor_52 rfl (lv_at hl 0 rfl) ?_
            refine lv_bipush (v := 10) C.1 C.2.1 dX12_ruleFor_53 (by decide) ?_
            refine lv_icmp_gt (tgt := 63) C.1 C.2.1 dX12_ruleFor_55 (by decide) (fun c6 => ?_) (fun c6 => ?_)
            · have h := if_t h c6
              refine lv_bipush (v := 77) C.1 C.2.1 dX12_ruleFor_63 (by decide) ?_
              exact wm_ruleFor_65 C h (lv_sub hl [] rfl)
            · have h := if_f h c6
              refine lv_bipush (v := 84) C.1 C.2.1 dX12_ruleFor_58 (by decide) ?_
              refine lv_goto (tgt := 65) C.1 C.2.1 dX12_ruleFor_60 (by decide) ?_
              exact wm_ruleFor_65 C h (lv_sub hl [] rfl)
          · have h := if_f h c5
            refine lv_bipush (v := 65) C.1 C.2.1 dX12_ruleFor_47 (by decide) ?_
            refine lv_goto (tgt := 65) C.1 C.2.1 dX12_ruleFor_49 (by decide) ?_
            exact wm_ruleFor_65 C h (lv_sub hl [] rfl)
        · have h := if_f h c4
          refine lv_bipush (v := 66) C.1 C.2.1 dX12_ruleFor_36 (by decide) ?_
          refine lv_goto (tgt := 65) C.1 C.2.1 dX12_ruleFor_38 (by decide) ?_
          exact wm_ruleFor_65 C h (lv_sub hl [] rfl)
      · have h := if_t h c3
        refine lv_bipush (v := 67) C.1 C.2.1 dX12_ruleFor_25 (by decide) ?_
        refine lv_goto (tgt := 65) C.1 C.2.1 dX12_ruleFor_27 (by decide) ?_
        exact wm_ruleFor_65 C h (lv_sub hl [] rfl)
    · have h := if_t h c2
      refine lv_bipush (v := 83) C.1 C.2.1 dX12_ruleFor_15 (by decide) ?_
      refine lv_goto (tgt := 65) C.1 C.2.1 dX12_ruleFor_17 (by decide) ?_
      exact wm_ruleFor_65 C h (lv_sub hl [] rfl)
  · have h := if_t h c1
    refine lv_bipush (v := 76) C.1 C.2.1 dX12_ruleFor_5 (by decide) ?_
    refine lv_goto (tgt := 65) C.1 C.2.1 dX12_ruleFor_7 (by decide) ?_
    exact wm_ruleFor_65 C h (lv_sub hl [] rfl)
end
theorem dX12_canBeUndone_0 : decode cX12_canBeUndone 0 = .ok (.iload_n 0, 1) := by decide +kernel
theorem dX12_canBeUndone_1 : decode cX12_canBeUndone 1 = .ok (.iconst 1, 1) := by decide +kernel
theorem dX12_canBeUndone_2 : decode cX12_canBeUndone 2 = .ok (.if_icmp .lt 8, 3) := by decide +kernel
theorem dX12_canBeUndone_5 : decode cX12_canBeUndone 5 = .ok (.iload_n 0, 1) := by decide +kernel
theorem dX12_canBeUndone_6 : decode cX12_canBeUndone 6 = .ok (.iconst 3, 1) := by decide +kernel
theorem dX12_canBeUndone_7 : decode cX12_canBeUndone 7 = .ok (.if_icmp .le 27, 3) := by decide +kernel
theorem dX12_canBeUndone_10 : decode cX12_canBeUndone 10 = .ok (.iload_n 0, 1) := by decide +kernel
theorem dX12_canBeUndone_11 : decode cX12_canBeUndone 11 = .ok (.bipush 7, 2) := by decide +kernel
theorem dX12_canBeUndone_13 : decode cX12_canBeUndone 13 = .ok (.if_icmp .lt 9, 3) := by decide +kernel
theorem dX12_canBeUndone_16 : decode cX12_canBeUndone 16 = .ok (.iload_n 0, 1) := by decide +kernel
theorem dX12_canBeUndone_17 : decode cX12_canBeUndone 17 = .ok (.bipush 12, 2) := by decide +kernel
theorem dX12_canBeUndone_19 : decode cX12_canBeUndone 19 = .ok (.if_icmp .le 15, 3) := by decide +kernel
theorem dX12_canBeUndone_22 : decode cX12_canBeUndone 22 = .ok (.iload_n 0, 1) := by decide +kernel
theorem dX12_canBeUndone_23 : decode cX12_canBeUndone 23 = .ok (.bipush 15, 2) := by decide +kernel
theorem dX12_canBeUndone_25 : decode cX12_canBeUndone 25 = .ok (.if_icmp .eq 9, 3) := by decide +kernel
theorem dX12_canBeUndone_28 : decode cX12_canBeUndone 28 = .ok (.iload_n 0, 1) := by decide +kernel
theorem dX12_canBeUndone_29 : decode cX12_canBeUndone 29 = .ok (.bipush 16, 2) := by decide +kernel
theorem dX12_canBeUndone_31 : decode cX12_canBeUndone 31 = .ok (.if_icmp .ne 7, 3) := by decide +kernel
theorem dX12_canBeUndone_34 : decode cX12_canBeUndone 34 = .ok (.iconst 1, 1) := by decide +kernel
theorem dX12_canBeUndone_35 : decode cX12_canBeUndone 35 = .ok (.goto 4, 3) := by decide +kernel
theorem dX12_canBeUndone_38 : decode cX12_canBeUndone 38 = .ok (.iconst 0, 1) := by decide +kernel
theorem dX12_canBeUndone_39 : decode cX12_canBeUndone 39 = .ok (.ireturn, 1) := by decide +kernel
theorem cd_canBeUndone : Cond.code yX12_canBeUndone cX12_canBeUndone 1 (some .boolean) ∈ lw_g := mt_at 2103 (by decide +kernel) rfl
theorem mw_canBeUndone : mCw 393 yX12_canBeUndone cX12_canBeUndone 1 (some .boolean) 1 := ⟨cd_canBeUndone, mt_at 2101 (by decide +kernel) rfl, in_M, by decide +kernel⟩
theorem st_canBeUndone : Cond.static yX12_canBeUndone ∈ lw_g := mt_at 2102 (by decide +kernel) rfl
section
variable {p : Program} {l : Launch} {e : Env} {R : Room} {s : State} {m : MethodId} {args : Array Value} {below : List Frame} {meth : Method} {c : Code} {cM : ClassId} {iS : Nat → Nat} {cI cZ : ClassId} {mo : Nat} {ad : Nat → Nat} {r : Int32}
noncomputable def fm_canBeUndone_39 (s0 : Int32) : Option (Int32) :=
ckz s0 (some s0)
set_option maxRecDepth 100000 in
set_option maxHeartbeats 4000000 in
theorem wm_canBeUndone_39 (C : mY p R s m args meth c cX12_canBeUndone 1 0 0 (some .boolean)) : ∀ {s0 : Int32} {ls : Array Slot}, fm_canBeUndone_39 s0 = some r → lv_has ls 1 [] → W p l e R s m args below meth c s.heap [] 0 0 (MQ below (mQi r) args s 0 0 mNo) (F0 m 39 ls [.int s0]) := by
  intro s0 ls h hl
  unfold fm_canBeUndone_39 at h
  obtain ⟨hzo, h⟩ := ckz_ok h
  cases h
  exact m_retz C hzo rfl rfl dX12_canBeUndone_39
noncomputable def fm_canBeUndone_34 : Option (Int32) :=
fm_canBeUndone_39 (1 : Int32)
set_option maxRecDepth 100000 in
set_option maxHeartbeats 4000000 in
theorem wm_canBeUndone_34 (C : mY p R s m args meth c cX12_canBeUndone 1 0 0 (some .boolean)) : ∀ {ls : Array Slot}, fm_canBeUndone_34 = some r → lv_has ls 1 [] → W p l e R s m args below meth c s.heap [] 0 0 (MQ below (mQi r) args s 0 0 mNo) (F0 m 34 ls []) := by
  intro ls h hl
  unfold fm_canBeUndone_34 at h
  refine lv_iconst (v := 1) C.1 C.2.1 dX12_canBeUndone_34 (by decide) ?_
  refine lv_goto (tgt := 39) C.1 C.2.1 dX12_canBeUndone_35 (by decide) ?_
  exact wm_canBeUndone_39 C h (lv_sub hl [] rfl)
noncomputable def fm_canBeUndone_22 (v0 : Int32) : Option (Int32) :=
if v0 = (15 : Int32) then (
fm_canBeUndone_34)
else (
if v0 = (16 : Int32) then (
fm_canBeUndone_34)
else (
fm_canBeUndone_39 (0 : Int32)))
set_option maxRecDepth 100000 in
set_option maxHeartbeats 4000000 in
theorem wm_canBeUndone_22 (C : mY p R s m args meth c cX12_canBeUndone 1 0 0 (some .boolean)) : ∀ {v0 : Int32} {ls : Array Slot}, fm_canBeUndone_22 v0 = some r → lv_has ls 1 [(0, .int v0)] → W p l e R s m args below meth c s.heap [] 0 0 (MQ below (mQi r) args s 0 0 mNo) (F0 m 22 ls []) := by
  intro v0 ls h hl
  unfold fm_canBeUndone_22 at h
  refine lv_iload_n C.1 C.2.1 dX12_canBeUndone_22 rfl (lv_at hl 0 rfl) ?_
  refine lv_bipush (v := 15) C.1 C.2.1 dX12_canBeUndone_23 (by decide) ?_
  refine lv_icmp_eq (tgt := 34) C.1 C.2.1 dX12_canBeUndone_25 (by decide) (fun c1 => ?_) (fun c1 => ?_)
  · have h := if_t h c1
    exact wm_canBeUndone_34 C h (lv_sub hl [] rfl)
  · have h := if_f h c1
    refine lv_iload_n C.1 C.2.1 dX12_canBeUndone_28 rfl (lv_at hl 0 rfl) ?_
    refine lv_bipush (v := 16) C.1 C.2.1 dX12_canBeUndone_29 (by decide) ?_
    refine lv_icmp_ne (tgt := 38) C.1 C.2.1 dX12_canBeUndone_31 (by decide) (fun c2 => ?_) (fun c2 => ?_)
    · have h := if_f h c2
      refine lv_iconst (v := 0) C.1 C.2.1 dX12_canBeUndone_38 (by decide) ?_
      exact wm_canBeUndone_39 C h (lv_sub hl [] rfl)
    · have h := if_t h c2
      exact wm_canBeUndone_34 C h (lv_sub hl [] rfl)
noncomputable def fm_canBeUndone_10 (v0 : Int32) : Option (Int32) :=
if v0 < (7 : Int32) then (
fm_canBeUndone_22 v0)
else (
if v0 ≤ (12 : Int32) then (
fm_canBeUndone_34)
else (
fm_canBeUndone_22 v0))
set_option maxRecDepth 100000 in
set_option maxHeartbeats 4000000 in
theorem wm_canBeUndone_10 (C : mY p R s m args meth c cX12_canBeUndone 1 0 0 (some .boolean)) : ∀ {v0 : Int32} {ls : Array Slot}, fm_canBeUndone_10 v0 = some r → lv_has ls 1 [(0, .int v0)] → W p l e R s m args below meth c s.heap [] 0 0 (MQ below (mQi r) args s 0 0 mNo) (F0 m 10 ls []) := by
  intro v0 ls h hl
  unfold fm_canBeUndone_10 at h
  refine lv_iload_n C.1 C.2.1 dX12_canBeUndone_10 rfl (lv_at hl 0 rfl) ?_
  refine lv_bipush (v := 7) C.1 C.2.1 dX12_canBeUndone_11 (by decide) ?_
  refine lv_icmp_lt (tgt := 22) C.1 C.2.1 dX12_canBeUndone_13 (by decide) (fun c1 => ?_) (fun c1 => ?_)
  · have h := if_t h c1
    exact wm_canBeUndone_22 C h (lv_sub hl [0] rfl)
  · have h := if_f h c1
    refine lv_iload_n C.1 C.2.1 dX12_canBeUndone_16 rfl (lv_at hl 0 rfl) ?_
    refine lv_bipush (v := 12) C.1 C.2.1 dX12_canBeUndone_17 (by decide) ?_
    refine lv_icmp_le (tgt := 34) C.1 C.2.1 dX12_canBeUndone_19 (by decide) (fun c2 => ?_) (fun c2 => ?_)
    · have h := if_t h c2
      exact wm_canBeUndone_34 C h (lv_sub hl [] rfl)
    · have h := if_f h c2
      exact wm_canBeUndone_22 C h (lv_sub hl [0] rfl)
noncomputable def fm_canBeUndone (v0 : Int32) : Option (Int32) :=
if v0 < (1 : Int32) then (
fm_canBeUndone_10 v0)
else (
if v0 ≤ (3 : Int32) then (
fm_canBeUndone_34)
else (
fm_canBeUndone_10 v0))
set_option maxRecDepth 100000 in
set_option maxHeartbeats 4000000 in
theorem tm_canBeUndone (l : Launch) {v0 : Int32} {r : Int32} (h : fm_canBeUndone v0 = some r) : Met l yX12_canBeUndone (Cond.code yX12_canBeUndone cX12_canBeUndone 1 (some .boolean) :: lw_g) { frames := 0, cells := 0, slots := 0, locals := 0 } (mPs [.int v0]) (mQi r) 0 0 (mNo) := by
  refine Met.ofW (cc := cX12_canBeUndone) (maxL := 1) (ret := (some .boolean)) (by decide) rfl ?_
  intro p e s m args below meth c s₁ B hml hv
  obtain rfl := hv
  have C : mY p (headSpec (Cond.code yX12_canBeUndone cX12_canBeUndone 1 (some .boolean) :: lw_g) { frames := 0, cells := 0, slots := 0, locals := 0 }).room s m _ meth c cX12_canBeUndone 1 0 0 (some .boolean) := ⟨B.exec, B.bytes, hml, findClass_of_methodNamed B.named, fun w hw => atoms_spec (ws := Cond.code yX12_canBeUndone cX12_canBeUndone 1 (some .boolean) :: lw_g) B.pre w (List.mem_cons_of_mem _ hw), ⟨Nat.le_refl _, Nat.le_refl _⟩, B.returns, B.notSynchronized⟩
  have hl := lv_entry ([.int v0]) (n := 1) (Nat.le_of_ble_eq_true rfl)
  rw [lg_entry_eq]
  generalize (lg_sl ([.int v0]) ++ List.replicate (1 - (lg_sl ([.int v0])).length) Slot.unset).toArray = ls at hl ⊢
  have hl : lv_has ls 1 [(0, .int v0)] := hl
  unfold fm_canBeUndone at h
  refine lv_iload_n C.1 C.2.1 dX12_canBeUndone_0 rfl (lv_at hl 0 rfl) ?_
  refine lv_iconst (v := 1) C.1 C.2.1 dX12_canBeUndone_1 (by decide) ?_
  refine lv_icmp_lt (tgt := 10) C.1 C.2.1 dX12_canBeUndone_2 (by decide) (fun c1 => ?_) (fun c1 => ?_)
  · have h := if_t h c1
    exact wm_canBeUndone_10 C h (lv_sub hl [0] rfl)
  · have h := if_f h c1
    refine lv_iload_n C.1 C.2.1 dX12_canBeUndone_5 rfl (lv_at hl 0 rfl) ?_
    refine lv_iconst (v := 3) C.1 C.2.1 dX12_canBeUndone_6 (by decide) ?_
    refine lv_icmp_le (tgt := 34) C.1 C.2.1 dX12_canBeUndone_7 (by decide) (fun c2 => ?_) (fun c2 => ?_)
    · have h := if_t h c2
      exact wm_canBeUndone_34 C h (lv_sub hl [] rfl)
    · have h := if_f h c2
      exact wm_canBeUndone_10 C h (lv_sub hl [0] rfl)
end
