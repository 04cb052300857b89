-- made by wip/whole/walk.py: the reference's deliver, lose, twice, raise
theorem dX12_deliver_0 : decode cX12_deliver 0 = .ok (.aload_n 0, 1) := by decide +kernel
theorem dX12_deliver_1 : decode cX12_deliver 1 = .ok (.iconst 0, 1) := by decide +kernel
theorem dX12_deliver_2 : decode cX12_deliver 2 = .ok (.putfield 200, 3) := by decide +kernel
theorem dX12_deliver_5 : decode cX12_deliver 5 = .ok (.iload_n 1, 1) := by decide +kernel
theorem dX12_deliver_6 : decode cX12_deliver 6 = .ok (.iconst 0, 1) := by decide +kernel
theorem dX12_deliver_7 : decode cX12_deliver 7 = .ok (.aload_n 0, 1) := by decide +kernel
theorem dX12_deliver_8 : decode cX12_deliver 8 = .ok (.getfield 428, 3) := by decide +kernel
theorem dX12_deliver_11 : decode cX12_deliver 11 = .ok (.iconst 1, 1) := by decide +kernel
theorem dX12_deliver_12 : decode cX12_deliver 12 = .ok (.isub, 1) := by decide +kernel
theorem dX12_deliver_13 : decode cX12_deliver 13 = .ok (.invokestatic 215, 3) := by decide +kernel
theorem dX12_deliver_16 : decode cX12_deliver 16 = .ok (.ifCond .ne 5, 3) := by decide +kernel
theorem dX12_deliver_19 : decode cX12_deliver 19 = .ok (.iconst (-1), 1) := by decide +kernel
theorem dX12_deliver_20 : decode cX12_deliver 20 = .ok (.ireturn, 1) := by decide +kernel
theorem dX12_deliver_21 : decode cX12_deliver 21 = .ok (.aload_n 0, 1) := by decide +kernel
theorem dX12_deliver_22 : decode cX12_deliver 22 = .ok (.iload_n 1, 1) := by decide +kernel
theorem dX12_deliver_23 : decode cX12_deliver 23 = .ok (.invokevirtual 467, 3) := by decide +kernel
theorem dX12_deliver_26 : decode cX12_deliver 26 = .ok (.ifCond .eq 21, 3) := by decide +kernel
theorem dX12_deliver_29 : decode cX12_deliver 29 = .ok (.aload_n 0, 1) := by decide +kernel
theorem dX12_deliver_30 : decode cX12_deliver 30 = .ok (.iload_n 1, 1) := by decide +kernel
theorem dX12_deliver_31 : decode cX12_deliver 31 = .ok (.invokevirtual 470, 3) := by decide +kernel
theorem dX12_deliver_34 : decode cX12_deliver 34 = .ok (.aload_n 0, 1) := by decide +kernel
theorem dX12_deliver_35 : decode cX12_deliver 35 = .ok (.dup, 1) := by decide +kernel
theorem dX12_deliver_36 : decode cX12_deliver 36 = .ok (.getfield 473, 3) := by decide +kernel
theorem dX12_deliver_39 : decode cX12_deliver 39 = .ok (.iconst 1, 1) := by decide +kernel
theorem dX12_deliver_40 : decode cX12_deliver 40 = .ok (.iadd, 1) := by decide +kernel
theorem dX12_deliver_41 : decode cX12_deliver 41 = .ok (.putfield 473, 3) := by decide +kernel
theorem dX12_deliver_44 : decode cX12_deliver 44 = .ok (.bipush (-2), 2) := by decide +kernel
theorem dX12_deliver_46 : decode cX12_deliver 46 = .ok (.ireturn, 1) := by decide +kernel
theorem dX12_deliver_47 : decode cX12_deliver 47 = .ok (.aload_n 0, 1) := by decide +kernel
theorem dX12_deliver_48 : decode cX12_deliver 48 = .ok (.iload_n 1, 1) := by decide +kernel
theorem dX12_deliver_49 : decode cX12_deliver 49 = .ok (.invokevirtual 470, 3) := by decide +kernel
theorem dX12_deliver_52 : decode cX12_deliver 52 = .ok (.aload_n 0, 1) := by decide +kernel
theorem dX12_deliver_53 : decode cX12_deliver 53 = .ok (.getfield 191, 3) := by decide +kernel
theorem dX12_deliver_56 : decode cX12_deliver 56 = .ok (.iconst 0, 1) := by decide +kernel
theorem dX12_deliver_57 : decode cX12_deliver 57 = .ok (.iaload, 1) := by decide +kernel
theorem dX12_deliver_58 : decode cX12_deliver 58 = .ok (.istore_n 2, 1) := by decide +kernel
theorem dX12_deliver_59 : decode cX12_deliver 59 = .ok (.aload_n 0, 1) := by decide +kernel
theorem dX12_deliver_60 : decode cX12_deliver 60 = .ok (.getfield 191, 3) := by decide +kernel
theorem dX12_deliver_63 : decode cX12_deliver 63 = .ok (.iconst 1, 1) := by decide +kernel
theorem dX12_deliver_64 : decode cX12_deliver 64 = .ok (.iaload, 1) := by decide +kernel
theorem dX12_deliver_65 : decode cX12_deliver 65 = .ok (.istore_n 3, 1) := by decide +kernel
theorem dX12_deliver_66 : decode cX12_deliver 66 = .ok (.aload_n 0, 1) := by decide +kernel
theorem dX12_deliver_67 : decode cX12_deliver 67 = .ok (.getfield 71, 3) := by decide +kernel
theorem dX12_deliver_70 : decode cX12_deliver 70 = .ok (.iload_n 3, 1) := by decide +kernel
theorem dX12_deliver_71 : decode cX12_deliver 71 = .ok (.iaload, 1) := by decide +kernel
theorem dX12_deliver_72 : decode cX12_deliver 72 = .ok (.istore 4, 2) := by decide +kernel
theorem dX12_deliver_74 : decode cX12_deliver 74 = .ok (.iconst 0, 1) := by decide +kernel
theorem dX12_deliver_75 : decode cX12_deliver 75 = .ok (.istore 5, 2) := by decide +kernel
theorem dX12_deliver_77 : decode cX12_deliver 77 = .ok (.iload 5, 2) := by decide +kernel
theorem dX12_deliver_79 : decode cX12_deliver 79 = .ok (.iconst 4, 1) := by decide +kernel
theorem dX12_deliver_80 : decode cX12_deliver 80 = .ok (.if_icmp .ge 67, 3) := by decide +kernel
theorem dX12_deliver_83 : decode cX12_deliver 83 = .ok (.bipush 16, 2) := by decide +kernel
theorem dX12_deliver_85 : decode cX12_deliver 85 = .ok (.iload_n 3, 1) := by decide +kernel
theorem dX12_deliver_86 : decode cX12_deliver 86 = .ok (.imul, 1) := by decide +kernel
theorem dX12_deliver_87 : decode cX12_deliver 87 = .ok (.iconst 4, 1) := by decide +kernel
theorem dX12_deliver_88 : decode cX12_deliver 88 = .ok (.iload_n 2, 1) := by decide +kernel
theorem dX12_deliver_89 : decode cX12_deliver 89 = .ok (.imul, 1) := by decide +kernel
theorem dX12_deliver_90 : decode cX12_deliver 90 = .ok (.iadd, 1) := by decide +kernel
theorem dX12_deliver_91 : decode cX12_deliver 91 = .ok (.iload 5, 2) := by decide +kernel
theorem dX12_deliver_93 : decode cX12_deliver 93 = .ok (.iadd, 1) := by decide +kernel
theorem dX12_deliver_94 : decode cX12_deliver 94 = .ok (.istore 6, 2) := by decide +kernel
theorem dX12_deliver_96 : decode cX12_deliver 96 = .ok (.aload_n 0, 1) := by decide +kernel
theorem dX12_deliver_97 : decode cX12_deliver 97 = .ok (.getfield 65, 3) := by decide +kernel
theorem dX12_deliver_100 : decode cX12_deliver 100 = .ok (.iload 6, 2) := by decide +kernel
theorem dX12_deliver_102 : decode cX12_deliver 102 = .ok (.aload_n 0, 1) := by decide +kernel
theorem dX12_deliver_103 : decode cX12_deliver 103 = .ok (.getfield 191, 3) := by decide +kernel
theorem dX12_deliver_106 : decode cX12_deliver 106 = .ok (.iconst 4, 1) := by decide +kernel
theorem dX12_deliver_107 : decode cX12_deliver 107 = .ok (.iload 5, 2) := by decide +kernel
theorem dX12_deliver_109 : decode cX12_deliver 109 = .ok (.iadd, 1) := by decide +kernel
theorem dX12_deliver_110 : decode cX12_deliver 110 = .ok (.iaload, 1) := by decide +kernel
theorem dX12_deliver_111 : decode cX12_deliver 111 = .ok (.aload_n 0, 1) := by decide +kernel
theorem dX12_deliver_112 : decode cX12_deliver 112 = .ok (.getfield 65, 3) := by decide +kernel
theorem dX12_deliver_115 : decode cX12_deliver 115 = .ok (.iload 6, 2) := by decide +kernel
theorem dX12_deliver_117 : decode cX12_deliver 117 = .ok (.iaload, 1) := by decide +kernel
theorem dX12_deliver_118 : decode cX12_deliver 118 = .ok (.if_icmp .le 15, 3) := by decide +kernel
theorem dX12_deliver_121 : decode cX12_deliver 121 = .ok (.aload_n 0, 1) := by decide +kernel
theorem dX12_deliver_122 : decode cX12_deliver 122 = .ok (.getfield 191, 3) := by decide +kernel
theorem dX12_deliver_125 : decode cX12_deliver 125 = .ok (.iconst 4, 1) := by decide +kernel
theorem dX12_deliver_126 : decode cX12_deliver 126 = .ok (.iload 5, 2) := by decide +kernel
theorem dX12_deliver_128 : decode cX12_deliver 128 = .ok (.iadd, 1) := by decide +kernel
theorem dX12_deliver_129 : decode cX12_deliver 129 = .ok (.iaload, 1) := by decide +kernel
theorem dX12_deliver_130 : decode cX12_deliver 130 = .ok (.goto 10, 3) := by decide +kernel
theorem dX12_deliver_133 : decode cX12_deliver 133 = .ok (.aload_n 0, 1) := by decide +kernel
theorem dX12_deliver_134 : decode cX12_deliver 134 = .ok (.getfield 65, 3) := by decide +kernel
theorem dX12_deliver_137 : decode cX12_deliver 137 = .ok (.iload 6, 2) := by decide +kernel
theorem dX12_deliver_139 : decode cX12_deliver 139 = .ok (.iaload, 1) := by decide +kernel
theorem dX12_deliver_140 : decode cX12_deliver 140 = .ok (.iastore, 1) := by decide +kernel
theorem dX12_deliver_141 : decode cX12_deliver 141 = .ok (.iinc 5 1, 3) := by decide +kernel
theorem dX12_deliver_144 : decode cX12_deliver 144 = .ok (.goto (-67), 3) := by decide +kernel
theorem dX12_deliver_147 : decode cX12_deliver 147 = .ok (.iconst 0, 1) := by decide +kernel
theorem dX12_deliver_148 : decode cX12_deliver 148 = .ok (.istore 5, 2) := by decide +kernel
theorem dX12_deliver_150 : decode cX12_deliver 150 = .ok (.iload 5, 2) := by decide +kernel
theorem dX12_deliver_152 : decode cX12_deliver 152 = .ok (.iconst 4, 1) := by decide +kernel
theorem dX12_deliver_153 : decode cX12_deliver 153 = .ok (.if_icmp .ge 81, 3) := by decide +kernel
theorem dX12_deliver_156 : decode cX12_deliver 156 = .ok (.bipush 16, 2) := by decide +kernel
theorem dX12_deliver_158 : decode cX12_deliver 158 = .ok (.iload_n 3, 1) := by decide +kernel
theorem dX12_deliver_159 : decode cX12_deliver 159 = .ok (.imul, 1) := by decide +kernel
theorem dX12_deliver_160 : decode cX12_deliver 160 = .ok (.iconst 4, 1) := by decide +kernel
theorem dX12_deliver_161 : decode cX12_deliver 161 = .ok (.iload 5, 2) := by decide +kernel
theorem dX12_deliver_163 : decode cX12_deliver 163 = .ok (.imul, 1) := by decide +kernel
theorem dX12_deliver_164 : decode cX12_deliver 164 = .ok (.iadd, 1) := by decide +kernel
theorem dX12_deliver_165 : decode cX12_deliver 165 = .ok (.istore 6, 2) := by decide +kernel
theorem dX12_deliver_167 : decode cX12_deliver 167 = .ok (.iconst 3, 1) := by decide +kernel
theorem dX12_deliver_168 : decode cX12_deliver 168 = .ok (.istore 7, 2) := by decide +kernel
theorem dX12_deliver_170 : decode cX12_deliver 170 = .ok (.iload 7, 2) := by decide +kernel
theorem dX12_deliver_172 : decode cX12_deliver 172 = .ok (.ifCond .lt 56, 3) := by decide +kernel
theorem dX12_deliver_175 : decode cX12_deliver 175 = .ok (.aload_n 0, 1) := by decide +kernel
theorem dX12_deliver_176 : decode cX12_deliver 176 = .ok (.getfield 191, 3) := by decide +kernel
theorem dX12_deliver_179 : decode cX12_deliver 179 = .ok (.bipush 16, 2) := by decide +kernel
theorem dX12_deliver_181 : decode cX12_deliver 181 = .ok (.iconst 4, 1) := by decide +kernel
theorem dX12_deliver_182 : decode cX12_deliver 182 = .ok (.iload 5, 2) := by decide +kernel
theorem dX12_deliver_184 : decode cX12_deliver 184 = .ok (.imul, 1) := by decide +kernel
theorem dX12_deliver_185 : decode cX12_deliver 185 = .ok (.iadd, 1) := by decide +kernel
theorem dX12_deliver_186 : decode cX12_deliver 186 = .ok (.iaload, 1) := by decide +kernel
theorem dX12_deliver_187 : decode cX12_deliver 187 = .ok (.aload_n 0, 1) := by decide +kernel
theorem dX12_deliver_188 : decode cX12_deliver 188 = .ok (.getfield 95, 3) := by decide +kernel
theorem dX12_deliver_191 : decode cX12_deliver 191 = .ok (.iload 6, 2) := by decide +kernel
theorem dX12_deliver_193 : decode cX12_deliver 193 = .ok (.iaload, 1) := by decide +kernel
theorem dX12_deliver_194 : decode cX12_deliver 194 = .ok (.if_icmp .le 34, 3) := by decide +kernel
theorem dX12_deliver_197 : decode cX12_deliver 197 = .ok (.aload_n 0, 1) := by decide +kernel
theorem dX12_deliver_198 : decode cX12_deliver 198 = .ok (.getfield 95, 3) := by decide +kernel
theorem dX12_deliver_201 : decode cX12_deliver 201 = .ok (.iload 6, 2) := by decide +kernel
theorem dX12_deliver_203 : decode cX12_deliver 203 = .ok (.iload 7, 2) := by decide +kernel
theorem dX12_deliver_205 : decode cX12_deliver 205 = .ok (.iadd, 1) := by decide +kernel
theorem dX12_deliver_206 : decode cX12_deliver 206 = .ok (.aload_n 0, 1) := by decide +kernel
theorem dX12_deliver_207 : decode cX12_deliver 207 = .ok (.getfield 191, 3) := by decide +kernel
theorem dX12_deliver_210 : decode cX12_deliver 210 = .ok (.bipush 16, 2) := by decide +kernel
theorem dX12_deliver_212 : decode cX12_deliver 212 = .ok (.iconst 4, 1) := by decide +kernel
theorem dX12_deliver_213 : decode cX12_deliver 213 = .ok (.iload 5, 2) := by decide +kernel
theorem dX12_deliver_215 : decode cX12_deliver 215 = .ok (.imul, 1) := by decide +kernel
theorem dX12_deliver_216 : decode cX12_deliver 216 = .ok (.iadd, 1) := by decide +kernel
theorem dX12_deliver_217 : decode cX12_deliver 217 = .ok (.iload 7, 2) := by decide +kernel
theorem dX12_deliver_219 : decode cX12_deliver 219 = .ok (.iadd, 1) := by decide +kernel
theorem dX12_deliver_220 : decode cX12_deliver 220 = .ok (.iaload, 1) := by decide +kernel
theorem dX12_deliver_221 : decode cX12_deliver 221 = .ok (.iastore, 1) := by decide +kernel
theorem dX12_deliver_222 : decode cX12_deliver 222 = .ok (.iinc 7 (-1), 3) := by decide +kernel
theorem dX12_deliver_225 : decode cX12_deliver 225 = .ok (.goto (-55), 3) := by decide +kernel
theorem dX12_deliver_228 : decode cX12_deliver 228 = .ok (.iinc 5 1, 3) := by decide +kernel
theorem dX12_deliver_231 : decode cX12_deliver 231 = .ok (.goto (-81), 3) := by decide +kernel
theorem dX12_deliver_234 : decode cX12_deliver 234 = .ok (.iconst 0, 1) := by decide +kernel
theorem dX12_deliver_235 : decode cX12_deliver 235 = .ok (.istore 5, 2) := by decide +kernel
theorem dX12_deliver_237 : decode cX12_deliver 237 = .ok (.iload 5, 2) := by decide +kernel
theorem dX12_deliver_239 : decode cX12_deliver 239 = .ok (.aload_n 0, 1) := by decide +kernel
theorem dX12_deliver_240 : decode cX12_deliver 240 = .ok (.getfield 191, 3) := by decide +kernel
theorem dX12_deliver_243 : decode cX12_deliver 243 = .ok (.iconst 3, 1) := by decide +kernel
theorem dX12_deliver_244 : decode cX12_deliver 244 = .ok (.iaload, 1) := by decide +kernel
theorem dX12_deliver_245 : decode cX12_deliver 245 = .ok (.if_icmp .ge 77, 3) := by decide +kernel
theorem dX12_deliver_248 : decode cX12_deliver 248 = .ok (.aload_n 0, 1) := by decide +kernel
theorem dX12_deliver_249 : decode cX12_deliver 249 = .ok (.getfield 191, 3) := by decide +kernel
theorem dX12_deliver_252 : decode cX12_deliver 252 = .ok (.bipush 8, 2) := by decide +kernel
theorem dX12_deliver_254 : decode cX12_deliver 254 = .ok (.iload 5, 2) := by decide +kernel
theorem dX12_deliver_256 : decode cX12_deliver 256 = .ok (.iadd, 1) := by decide +kernel
theorem dX12_deliver_257 : decode cX12_deliver 257 = .ok (.iaload, 1) := by decide +kernel
theorem dX12_deliver_258 : decode cX12_deliver 258 = .ok (.istore 6, 2) := by decide +kernel
theorem dX12_deliver_260 : decode cX12_deliver 260 = .ok (.aload_n 0, 1) := by decide +kernel
theorem dX12_deliver_261 : decode cX12_deliver 261 = .ok (.iload_n 3, 1) := by decide +kernel
theorem dX12_deliver_262 : decode cX12_deliver 262 = .ok (.iload 6, 2) := by decide +kernel
theorem dX12_deliver_264 : decode cX12_deliver 264 = .ok (.invokevirtual 236, 3) := by decide +kernel
theorem dX12_deliver_267 : decode cX12_deliver 267 = .ok (.ifCond .eq 6, 3) := by decide +kernel
theorem dX12_deliver_270 : decode cX12_deliver 270 = .ok (.goto 46, 3) := by decide +kernel
theorem dX12_deliver_273 : decode cX12_deliver 273 = .ok (.aload_n 0, 1) := by decide +kernel
theorem dX12_deliver_274 : decode cX12_deliver 274 = .ok (.iload_n 3, 1) := by decide +kernel
theorem dX12_deliver_275 : decode cX12_deliver 275 = .ok (.iload 6, 2) := by decide +kernel
theorem dX12_deliver_277 : decode cX12_deliver 277 = .ok (.invokevirtual 464, 3) := by decide +kernel
theorem dX12_deliver_280 : decode cX12_deliver 280 = .ok (.ifCond .ne 13, 3) := by decide +kernel
theorem dX12_deliver_283 : decode cX12_deliver 283 = .ok (.aload_n 0, 1) := by decide +kernel
theorem dX12_deliver_284 : decode cX12_deliver 284 = .ok (.iload_n 3, 1) := by decide +kernel
theorem dX12_deliver_285 : decode cX12_deliver 285 = .ok (.iload 6, 2) := by decide +kernel
theorem dX12_deliver_287 : decode cX12_deliver 287 = .ok (.invokevirtual 476, 3) := by decide +kernel
theorem dX12_deliver_290 : decode cX12_deliver 290 = .ok (.goto 26, 3) := by decide +kernel
theorem dX12_deliver_293 : decode cX12_deliver 293 = .ok (.iload 6, 2) := by decide +kernel
theorem dX12_deliver_295 : decode cX12_deliver 295 = .ok (.iconst (-1), 1) := by decide +kernel
theorem dX12_deliver_296 : decode cX12_deliver 296 = .ok (.if_icmp .eq 20, 3) := by decide +kernel
theorem dX12_deliver_299 : decode cX12_deliver 299 = .ok (.aload_n 0, 1) := by decide +kernel
theorem dX12_deliver_300 : decode cX12_deliver 300 = .ok (.iload_n 3, 1) := by decide +kernel
theorem dX12_deliver_301 : decode cX12_deliver 301 = .ok (.iload 6, 2) := by decide +kernel
theorem dX12_deliver_303 : decode cX12_deliver 303 = .ok (.invokevirtual 412, 3) := by decide +kernel
theorem dX12_deliver_306 : decode cX12_deliver 306 = .ok (.aload_n 0, 1) := by decide +kernel
theorem dX12_deliver_307 : decode cX12_deliver 307 = .ok (.iload_n 3, 1) := by decide +kernel
theorem dX12_deliver_308 : decode cX12_deliver 308 = .ok (.invokevirtual 479, 3) := by decide +kernel
theorem dX12_deliver_311 : decode cX12_deliver 311 = .ok (.istore 6, 2) := by decide +kernel
theorem dX12_deliver_313 : decode cX12_deliver 313 = .ok (.goto (-20), 3) := by decide +kernel
theorem dX12_deliver_316 : decode cX12_deliver 316 = .ok (.iinc 5 1, 3) := by decide +kernel
theorem dX12_deliver_319 : decode cX12_deliver 319 = .ok (.goto (-82), 3) := by decide +kernel
theorem dX12_deliver_322 : decode cX12_deliver 322 = .ok (.aload_n 0, 1) := by decide +kernel
theorem dX12_deliver_323 : decode cX12_deliver 323 = .ok (.getfield 71, 3) := by decide +kernel
theorem dX12_deliver_326 : decode cX12_deliver 326 = .ok (.iload_n 3, 1) := by decide +kernel
theorem dX12_deliver_327 : decode cX12_deliver 327 = .ok (.iaload, 1) := by decide +kernel
theorem dX12_deliver_328 : decode cX12_deliver 328 = .ok (.iload 4, 2) := by decide +kernel
theorem dX12_deliver_330 : decode cX12_deliver 330 = .ok (.isub, 1) := by decide +kernel
theorem dX12_deliver_331 : decode cX12_deliver 331 = .ok (.istore 5, 2) := by decide +kernel
theorem dX12_deliver_333 : decode cX12_deliver 333 = .ok (.aload_n 0, 1) := by decide +kernel
theorem dX12_deliver_334 : decode cX12_deliver 334 = .ok (.getfield 191, 3) := by decide +kernel
theorem dX12_deliver_337 : decode cX12_deliver 337 = .ok (.iconst 2, 1) := by decide +kernel
theorem dX12_deliver_338 : decode cX12_deliver 338 = .ok (.iaload, 1) := by decide +kernel
theorem dX12_deliver_339 : decode cX12_deliver 339 = .ok (.iconst 1, 1) := by decide +kernel
theorem dX12_deliver_340 : decode cX12_deliver 340 = .ok (.if_icmp .ne 50, 3) := by decide +kernel
theorem dX12_deliver_343 : decode cX12_deliver 343 = .ok (.iconst 0, 1) := by decide +kernel
theorem dX12_deliver_344 : decode cX12_deliver 344 = .ok (.istore 6, 2) := by decide +kernel
theorem dX12_deliver_346 : decode cX12_deliver 346 = .ok (.iload 6, 2) := by decide +kernel
theorem dX12_deliver_348 : decode cX12_deliver 348 = .ok (.iconst 4, 1) := by decide +kernel
theorem dX12_deliver_349 : decode cX12_deliver 349 = .ok (.if_icmp .ge 34, 3) := by decide +kernel
theorem dX12_deliver_352 : decode cX12_deliver 352 = .ok (.aload_n 0, 1) := by decide +kernel
theorem dX12_deliver_353 : decode cX12_deliver 353 = .ok (.getfield 68, 3) := by decide +kernel
theorem dX12_deliver_356 : decode cX12_deliver 356 = .ok (.bipush 16, 2) := by decide +kernel
theorem dX12_deliver_358 : decode cX12_deliver 358 = .ok (.iload_n 3, 1) := by decide +kernel
theorem dX12_deliver_359 : decode cX12_deliver 359 = .ok (.imul, 1) := by decide +kernel
theorem dX12_deliver_360 : decode cX12_deliver 360 = .ok (.iconst 4, 1) := by decide +kernel
theorem dX12_deliver_361 : decode cX12_deliver 361 = .ok (.iload_n 2, 1) := by decide +kernel
theorem dX12_deliver_362 : decode cX12_deliver 362 = .ok (.imul, 1) := by decide +kernel
theorem dX12_deliver_363 : decode cX12_deliver 363 = .ok (.iadd, 1) := by decide +kernel
theorem dX12_deliver_364 : decode cX12_deliver 364 = .ok (.iload 6, 2) := by decide +kernel
theorem dX12_deliver_366 : decode cX12_deliver 366 = .ok (.iadd, 1) := by decide +kernel
theorem dX12_deliver_367 : decode cX12_deliver 367 = .ok (.aload_n 0, 1) := by decide +kernel
theorem dX12_deliver_368 : decode cX12_deliver 368 = .ok (.getfield 191, 3) := by decide +kernel
theorem dX12_deliver_371 : decode cX12_deliver 371 = .ok (.iconst 4, 1) := by decide +kernel
theorem dX12_deliver_372 : decode cX12_deliver 372 = .ok (.iload 6, 2) := by decide +kernel
theorem dX12_deliver_374 : decode cX12_deliver 374 = .ok (.iadd, 1) := by decide +kernel
theorem dX12_deliver_375 : decode cX12_deliver 375 = .ok (.iaload, 1) := by decide +kernel
theorem dX12_deliver_376 : decode cX12_deliver 376 = .ok (.iastore, 1) := by decide +kernel
theorem dX12_deliver_377 : decode cX12_deliver 377 = .ok (.iinc 6 1, 3) := by decide +kernel
theorem dX12_deliver_380 : decode cX12_deliver 380 = .ok (.goto (-34), 3) := by decide +kernel
theorem dX12_deliver_383 : decode cX12_deliver 383 = .ok (.aload_n 0, 1) := by decide +kernel
theorem dX12_deliver_384 : decode cX12_deliver 384 = .ok (.iload_n 3, 1) := by decide +kernel
theorem dX12_deliver_385 : decode cX12_deliver 385 = .ok (.iload_n 2, 1) := by decide +kernel
theorem dX12_deliver_386 : decode cX12_deliver 386 = .ok (.iconst 0, 1) := by decide +kernel
theorem dX12_deliver_387 : decode cX12_deliver 387 = .ok (.invokevirtual 437, 3) := by decide +kernel
theorem dX12_deliver_390 : decode cX12_deliver 390 = .ok (.iload 5, 2) := by decide +kernel
theorem dX12_deliver_392 : decode cX12_deliver 392 = .ok (.ireturn, 1) := by decide +kernel
theorem cd_deliver : Cond.code yX12_deliver cX12_deliver 8 (some .int) ∈ lw_g := mt_at 2264 (by decide +kernel) rfl
section
variable {p : Program} {l : Launch} {e : Env} {R : Room} {s : State} {m : MethodId} {args : Array Value} {below : List Frame} {meth : Method} {c : Code} {cM : ClassId} {iS : Nat → Nat} {cI cZ : ClassId} {mo : Nat} {ad : Nat → Nat} {r : Int32} {S9 : mSt}
noncomputable def fm_deliver_390 (S : mSt) (v5 : Int32) : Option (Int32 × mSt) :=
some (v5, S)
set_option maxRecDepth 100000 in
set_option maxHeartbeats 4000000 in
theorem wm_deliver_390 (C : mY p R s m args meth c cX12_deliver 8 9 224 (some .int)) (X : mX s cM iS cI cZ mo ad) : ∀ {S : mSt} {v5 : Int32} {H : Heap} {locs : List Loc} {ls : Array Slot}, fm_deliver_390 S v5 = some (r, S9) → mW cM iS cI cZ mo ad S H → mS (mA mo ad) s.heap H locs → lv_has ls 8 [(5, .int v5)] → W p l e R s m args below meth c H locs 0 0 (MQ below (mQw (some (.int r)) cM iS cI cZ mo ad S9) args s 0 0 (mA mo ad)) (F0 m 390 ls []) := by
  intro S v5 H locs ls h hW hS hl
  unfold fm_deliver_390 at h
  refine lv_iload C.1 C.2.1 dX12_deliver_390 (lv_at hl 0 rfl) ?_
  cases h
  exact m_retiW C hW hS dX12_deliver_392
noncomputable def fm_deliver_346 : Nat → mSt → Int32 → Int32 → Int32 → Int32 → Option (Int32 × mSt)
  | 0, _, _, _, _, _ => none
  | n + 1, S, v2, v3, v5, v6 =>
    if (4 : Int32) ≤ v6 then (
    bd (fm_start S v3 v2 (0 : Int32)) fun S2 =>
    fm_deliver_390 S2 v5)
    else (
    ck ((4 : Int32) + v6) 640 (
    ck ((((16 : Int32) * v3) + ((4 : Int32) * v2)) + v6) 64 (lt (wr S 22 ((((16 : Int32) * v3) + ((4 : Int32) * v2)) + v6) (rd S 76 ((4 : Int32) + v6))) fun S3 =>
    lt (v6 + (1 : Int32)) fun x4 =>
    fm_deliver_346 n S3 v2 v3 v5 x4)))
set_option maxRecDepth 100000 in
set_option maxHeartbeats 4000000 in
theorem wm_deliver_346 (C : mY p R s m args meth c cX12_deliver 8 9 224 (some .int)) (X : mX s cM iS cI cZ mo ad) : ∀ (n : Nat), ∀ {S : mSt} {v2 : Int32} {v3 : Int32} {v5 : Int32} {v6 : Int32} {H : Heap} {locs : List Loc} {ls : Array Slot}, fm_deliver_346 n S v2 v3 v5 v6 = some (r, S9) → mW cM iS cI cZ mo ad S H → mS (mA mo ad) s.heap H locs → lv_has ls 8 [(0, .ref mo), (2, .int v2), (3, .int v3), (5, .int v5), (6, .int v6)] → W p l e R s m args below meth c H locs 0 0 (MQ below (mQw (some (.int r)) cM iS cI cZ mo ad S9) args s 0 0 (mA mo ad)) (F0 m 346 ls []) := by
  intro n
  induction n with
  | zero =>
    intro S v2 v3 v5 v6 H locs ls h hW hS hl
    exact absurd (show (none : Option (Int32 × mSt)) = _ from h) (fun q => by cases q)
  | succ n ih =>
    intro S v2 v3 v5 v6 H locs ls h hW hS hl
    rw [fm_deliver_346] at h
    refine lv_iload C.1 C.2.1 dX12_deliver_346 (lv_at hl 4 rfl) ?_
    refine lv_iconst (v := 4) C.1 C.2.1 dX12_deliver_348 (by decide) ?_
    refine lv_icmp_ge (tgt := 383) C.1 C.2.1 dX12_deliver_349 (by decide) (fun c1 => ?_) (fun c1 => ?_)
    · have h := if_t h c1
      refine lv_aload_n C.1 C.2.1 dX12_deliver_383 rfl (lv_at hl 0 rfl) ?_
      refine lv_iload_n C.1 C.2.1 dX12_deliver_384 rfl (lv_at hl 2 rfl) ?_
      refine lv_iload_n C.1 C.2.1 dX12_deliver_385 rfl (lv_at hl 1 rfl) ?_
      refine lv_iconst (v := 0) C.1 C.2.1 dX12_deliver_386 (by decide) ?_
      obtain ⟨S2, h_S2, h⟩ := bd_ok h
      refine m_callW (rest := []) (ov := none) C X hW hS hl.1 [.int v3, .int v2, .int (0 : Int32)] (tm_start l h_S2) mw_start im_start sl_start rfl ⟨by decide, by decide⟩ rfl (Nat.le_of_ble_eq_true rfl) dX12_deliver_387 (fun H locs hW hS => ?_)
      refine W.eq (g2 := F0 m 390 ls []) rfl ?_
      exact wm_deliver_390 C X h hW hS (lv_sub hl [3] rfl)
    · have h := if_f h c1
      refine lv_aload_n C.1 C.2.1 dX12_deliver_352 rfl (lv_at hl 0 rfl) ?_
      refine gf_22 C X hW dX12_deliver_353 ?_
      refine lv_bipush (v := 16) C.1 C.2.1 dX12_deliver_356 (by decide) ?_
      refine lv_iload_n C.1 C.2.1 dX12_deliver_358 rfl (lv_at hl 2 rfl) ?_
      refine lv_imul C.1 C.2.1 dX12_deliver_359 ?_
      refine lv_iconst (v := 4) C.1 C.2.1 dX12_deliver_360 (by decide) ?_
      refine lv_iload_n C.1 C.2.1 dX12_deliver_361 rfl (lv_at hl 1 rfl) ?_
      refine lv_imul C.1 C.2.1 dX12_deliver_362 ?_
      refine lv_iadd C.1 C.2.1 dX12_deliver_363 ?_
      refine lv_iload C.1 C.2.1 dX12_deliver_364 (lv_at hl 4 rfl) ?_
      refine lv_iadd C.1 C.2.1 dX12_deliver_366 ?_
      refine lv_aload_n C.1 C.2.1 dX12_deliver_367 rfl (lv_at hl 0 rfl) ?_
      refine gf_76 C X hW dX12_deliver_368 ?_
      refine lv_iconst (v := 4) C.1 C.2.1 dX12_deliver_371 (by decide) ?_
      refine lv_iload C.1 C.2.1 dX12_deliver_372 (lv_at hl 4 rfl) ?_
      refine lv_iadd C.1 C.2.1 dX12_deliver_374 ?_
      obtain ⟨hin, h⟩ := ck_ok h
      refine l_76 C X hW hin dX12_deliver_375 ?_
      obtain ⟨hin, h⟩ := ck_ok h
      refine s_22 C X hW hS hin dX12_deliver_376 (fun H locs hW hS => ?_)
      refine lt_ok h (fun S3 e_S3 h => ?_)
      rw [e_S3] at hW
      refine lt_ok h (fun x4 e_x4 h => ?_)
      refine lv_iinc (v := x4) (lv' := [(6, .int x4), (0, .ref mo), (2, .int v2), (3, .int v3), (5, .int v5)]) C.1 C.2.1 dX12_deliver_377 hl (k := 4) rfl (by rw [← e_x4]; rfl) (by decide) rfl (fun ls hl => ?_)
      refine lv_goto (tgt := 346) C.1 C.2.1 dX12_deliver_380 (by decide) ?_
      exact ih h hW hS (lv_sub hl [1, 2, 3, 4, 0] rfl)
noncomputable def fm_deliver_316 (g_237 : mSt → Int32 → Int32 → Int32 → Int32 → Option (Int32 × mSt)) (S : mSt) (v2 : Int32) (v3 : Int32) (v4 : Int32) (v5 : Int32) : Option (Int32 × mSt) :=
lt (v5 + (1 : Int32)) fun x1 =>
g_237 S v2 v3 v4 x1
set_option maxRecDepth 100000 in
set_option maxHeartbeats 4000000 in
theorem wm_deliver_316 (C : mY p R s m args meth c cX12_deliver 8 9 224 (some .int)) (X : mX s cM iS cI cZ mo ad) {g_237 : mSt → Int32 → Int32 → Int32 → Int32 → Option (Int32 × mSt)} (hg_237 : ∀ {S : mSt} {v2 : Int32} {v3 : Int32} {v4 : Int32} {v5 : Int32} {H : Heap} {locs : List Loc} {ls : Array Slot}, g_237 S v2 v3 v4 v5 = some (r, S9) → mW cM iS cI cZ mo ad S H → mS (mA mo ad) s.heap H locs → lv_has ls 8 [(0, .ref mo), (2, .int v2), (3, .int v3), (4, .int v4), (5, .int v5)] → W p l e R s m args below meth c H locs 0 0 (MQ below (mQw (some (.int r)) cM iS cI cZ mo ad S9) args s 0 0 (mA mo ad)) (F0 m 237 ls [])) : ∀ {S : mSt} {v2 : Int32} {v3 : Int32} {v4 : Int32} {v5 : Int32} {H : Heap} {locs : List Loc} {ls : Array Slot}, fm_deliver_316 g_237 S v2 v3 v4 v5 = some (r, S9) → mW cM iS cI cZ mo ad S H → mS (mA mo ad) s.heap H locs → lv_has ls 8 [(0, .ref mo), (2, .int v2), (3, .int v3), (4, .int v4), (5, .int v5)] → W p l e R s m args below meth c H locs 0 0 (MQ below (mQw (some (.int r)) cM iS cI cZ mo ad S9) args s 0 0 (mA mo ad)) (F0 m 316 ls []) := by
  intro S v2 v3 v4 v5 H locs ls h hW hS hl
  unfold fm_deliver_316 at h
  refine lt_ok h (fun x1 e_x1 h => ?_)
  refine lv_iinc (v := x1) (lv' := [(5, .int x1), (0, .ref mo), (2, .int v2), (3, .int v3), (4, .int v4)]) C.1 C.2.1 dX12_deliver_316 hl (k := 4) rfl (by rw [← e_x1]; rfl) (by decide) rfl (fun ls hl => ?_)
  refine lv_goto (tgt := 237) C.1 C.2.1 dX12_deliver_319 (by decide) ?_
  exact hg_237 h hW hS (lv_sub hl [1, 2, 3, 4, 0] rfl)
noncomputable def fm_deliver_293 (g_237 : mSt → Int32 → Int32 → Int32 → Int32 → Option (Int32 × mSt)) : Nat → mSt → Int32 → Int32 → Int32 → Int32 → Int32 → Option (Int32 × mSt)
  | 0, _, _, _, _, _, _ => none
  | n + 1, S, v2, v3, v4, v5, v6 =>
    if v6 = (-1 : Int32) then (
    fm_deliver_316 g_237 S v2 v3 v4 v5)
    else (
    bd (fm_apply S v3 v6) fun S2 =>
    bd (fm_nextReady S2 v3) fun r3 =>
    fm_deliver_293 g_237 n S2 v2 v3 v4 v5 r3)
set_option maxRecDepth 100000 in
set_option maxHeartbeats 4000000 in
theorem wm_deliver_293 (C : mY p R s m args meth c cX12_deliver 8 9 224 (some .int)) (X : mX s cM iS cI cZ mo ad) {g_237 : mSt → Int32 → Int32 → Int32 → Int32 → Option (Int32 × mSt)} (hg_237 : ∀ {S : mSt} {v2 : Int32} {v3 : Int32} {v4 : Int32} {v5 : Int32} {H : Heap} {locs : List Loc} {ls : Array Slot}, g_237 S v2 v3 v4 v5 = some (r, S9) → mW cM iS cI cZ mo ad S H → mS (mA mo ad) s.heap H locs → lv_has ls 8 [(0, .ref mo), (2, .int v2), (3, .int v3), (4, .int v4), (5, .int v5)] → W p l e R s m args below meth c H locs 0 0 (MQ below (mQw (some (.int r)) cM iS cI cZ mo ad S9) args s 0 0 (mA mo ad)) (F0 m 237 ls [])) : ∀ (n : Nat), ∀ {S : mSt} {v2 : Int32} {v3 : Int32} {v4 : Int32} {v5 : Int32} {v6 : Int32} {H : Heap} {locs : List Loc} {ls : Array Slot}, fm_deliver_293 g_237 n S v2 v3 v4 v5 v6 = some (r, S9) → mW cM iS cI cZ mo ad S H → mS (mA mo ad) s.heap H locs → lv_has ls 8 [(0, .ref mo), (2, .int v2), (3, .int v3), (4, .int v4), (5, .int v5), (6, .int v6)] → W p l e R s m args below meth c H locs 0 0 (MQ below (mQw (some (.int r)) cM iS cI cZ mo ad S9) args s 0 0 (mA mo ad)) (F0 m 293 ls []) := by
  intro n
  induction n with
  | zero =>
    intro S v2 v3 v4 v5 v6 H locs ls h hW hS hl
    exact absurd (show (none : Option (Int32 × mSt)) = _ from h) (fun q => by cases q)
  | succ n ih =>
    intro S v2 v3 v4 v5 v6 H locs ls h hW hS hl
    rw [fm_deliver_293] at h
    refine lv_iload C.1 C.2.1 dX12_deliver_293 (lv_at hl 5 rfl) ?_
    refine lv_iconst (v := -1) C.1 C.2.1 dX12_deliver_295 (by decide) ?_
    refine lv_icmp_eq (tgt := 316) C.1 C.2.1 dX12_deliver_296 (by decide) (fun c1 => ?_) (fun c1 => ?_)
    · have h := if_t h c1
      exact wm_deliver_316 C X hg_237 h hW hS (lv_sub hl [0, 1, 2, 3, 4] rfl)
    · have h := if_f h c1
      refine lv_aload_n C.1 C.2.1 dX12_deliver_299 rfl (lv_at hl 0 rfl) ?_
      refine lv_iload_n C.1 C.2.1 dX12_deliver_300 rfl (lv_at hl 2 rfl) ?_
      refine lv_iload C.1 C.2.1 dX12_deliver_301 (lv_at hl 5 rfl) ?_
      obtain ⟨S2, h_S2, h⟩ := bd_ok h
      refine m_callW (rest := []) (ov := none) C X hW hS hl.1 [.int v3, .int v6] (tm_apply l h_S2) mw_apply im_apply sl_apply rfl ⟨by decide, by decide⟩ rfl (Nat.le_of_ble_eq_true rfl) dX12_deliver_303 (fun H locs hW hS => ?_)
      refine W.eq (g2 := F0 m 306 ls []) rfl ?_
      refine lv_aload_n C.1 C.2.1 dX12_deliver_306 rfl (lv_at hl 0 rfl) ?_
      refine lv_iload_n C.1 C.2.1 dX12_deliver_307 rfl (lv_at hl 2 rfl) ?_
      obtain ⟨r3, h_r3, h⟩ := bd_ok h
      refine m_callR (rest := []) C X hW hl.1 [.int v3] (tm_nextReady l h_r3) mw_nextReady im_nextReady sl_nextReady rfl ⟨by decide, by decide⟩ rfl (Nat.le_of_ble_eq_true rfl) dX12_deliver_308 ?_
      refine lv_istore (lv' := [(6, .int r3), (0, .ref mo), (2, .int v2), (3, .int v3), (4, .int v4), (5, .int v5)]) C.1 C.2.1 dX12_deliver_311 hl (by decide) rfl (fun ls hl => ?_)
      refine lv_goto (tgt := 293) C.1 C.2.1 dX12_deliver_313 (by decide) ?_
      exact ih h hW hS (lv_sub hl [1, 2, 3, 4, 5, 0] rfl)
noncomputable def fm_deliver_237 : Nat → mSt → Int32 → Int32 → Int32 → Int32 → Option (Int32 × mSt)
  | 0, _, _, _, _, _ => none
  | n + 1, S, v2, v3, v4, v5 =>
    ck (3 : Int32) 640 (
    if (rd S 76 (3 : Int32)) ≤ v5 then (
    ck v3 4 (
    lt ((rd S 23 v3) - v4) fun x2 =>
    ck (2 : Int32) 640 (
    if (rd S 76 (2 : Int32)) = (1 : Int32) then (
    fm_deliver_346 mFU S v2 v3 x2 (0 : Int32))
    else (
    fm_deliver_390 S x2))))
    else (
    ck ((8 : Int32) + v5) 640 (
    lt (rd S 76 ((8 : Int32) + v5)) fun x4 =>
    bd (fm_isApplied S v3 x4) fun r5 =>
    if r5 = 0 then (
    bd (fm_isReady S v3 x4) fun r7 =>
    if r7 = 0 then (
    bd (fm_keep S v3 x4) fun S9 =>
    fm_deliver_316 (fm_deliver_237 n) S9 v2 v3 v4 v5)
    else (
    fm_deliver_293 (fm_deliver_237 n) mFU S v2 v3 v4 v5 x4))
    else (
    fm_deliver_316 (fm_deliver_237 n) S v2 v3 v4 v5))))
set_option maxRecDepth 100000 in
set_option maxHeartbeats 4000000 in
theorem wm_deliver_237 (C : mY p R s m args meth c cX12_deliver 8 9 224 (some .int)) (X : mX s cM iS cI cZ mo ad) : ∀ (n : Nat), ∀ {S : mSt} {v2 : Int32} {v3 : Int32} {v4 : Int32} {v5 : Int32} {H : Heap} {locs : List Loc} {ls : Array Slot}, fm_deliver_237 n S v2 v3 v4 v5 = some (r, S9) → mW cM iS cI cZ mo ad S H → mS (mA mo ad) s.heap H locs → lv_has ls 8 [(0, .ref mo), (2, .int v2), (3, .int v3), (4, .int v4), (5, .int v5)] → W p l e R s m args below meth c H locs 0 0 (MQ below (mQw (some (.int r)) cM iS cI cZ mo ad S9) args s 0 0 (mA mo ad)) (F0 m 237 ls []) := by
  intro n
  induction n with
  | zero =>
    intro S v2 v3 v4 v5 H locs ls h hW hS hl
    exact absurd (show (none : Option (Int32 × mSt)) = _ from h) (fun q => by cases q)
  | succ n ih =>
    intro S v2 v3 v4 v5 H locs ls h hW hS hl
    rw [fm_deliver_237] at h
    refine lv_iload C.1 C.2.1 dX12_deliver_237 (lv_at hl 4 rfl) ?_
    refine lv_aload_n C.1 C.2.1 dX12_deliver_239 rfl (lv_at hl 0 rfl) ?_
    refine gf_76 C X hW dX12_deliver_240 ?_
    refine lv_iconst (v := 3) C.1 C.2.1 dX12_deliver_243 (by decide) ?_
    obtain ⟨hin, h⟩ := ck_ok h
    refine l_76 C X hW hin dX12_deliver_244 ?_
    refine lv_icmp_ge (tgt := 322) C.1 C.2.1 dX12_deliver_245 (by decide) (fun c1 => ?_) (fun c1 => ?_)
    · have h := if_t h c1
      refine lv_aload_n C.1 C.2.1 dX12_deliver_322 rfl (lv_at hl 0 rfl) ?_
      refine gf_23 C X hW dX12_deliver_323 ?_
      refine lv_iload_n C.1 C.2.1 dX12_deliver_326 rfl (lv_at hl 2 rfl) ?_
      obtain ⟨hin, h⟩ := ck_ok h
      refine l_23 C X hW hin dX12_deliver_327 ?_
      refine lv_iload C.1 C.2.1 dX12_deliver_328 (lv_at hl 3 rfl) ?_
      refine lv_isub C.1 C.2.1 dX12_deliver_330 ?_
      refine lt_ok h (fun x2 e_x2 h => ?_)
      refine lv_nm e_x2 ?_
      refine lv_istore (lv' := [(5, .int x2), (0, .ref mo), (2, .int v2), (3, .int v3), (4, .int v4)]) C.1 C.2.1 dX12_deliver_331 hl (by decide) rfl (fun ls hl => ?_)
      refine lv_aload_n C.1 C.2.1 dX12_deliver_333 rfl (lv_at hl 1 rfl) ?_
      refine gf_76 C X hW dX12_deliver_334 ?_
      refine lv_iconst (v := 2) C.1 C.2.1 dX12_deliver_337 (by decide) ?_
      obtain ⟨hin, h⟩ := ck_ok h
      refine l_76 C X hW hin dX12_deliver_338 ?_
      refine lv_iconst (v := 1) C.1 C.2.1 dX12_deliver_339 (by decide) ?_
      refine lv_icmp_ne (tgt := 390) C.1 C.2.1 dX12_deliver_340 (by decide) (fun c3 => ?_) (fun c3 => ?_)
      · have h := if_f h c3
        exact wm_deliver_390 C X h hW hS (lv_sub hl [0] rfl)
      · have h := if_t h c3
        refine lv_iconst (v := 0) C.1 C.2.1 dX12_deliver_343 (by decide) ?_
        refine lv_istore (lv' := [(6, .int (0 : Int32)), (5, .int x2), (0, .ref mo), (2, .int v2), (3, .int v3), (4, .int v4)]) C.1 C.2.1 dX12_deliver_344 hl (by decide) rfl (fun ls hl => ?_)
        exact wm_deliver_346 C X mFU h hW hS (lv_sub hl [2, 3, 4, 1, 0] rfl)
    · have h := if_f h c1
      refine lv_aload_n C.1 C.2.1 dX12_deliver_248 rfl (lv_at hl 0 rfl) ?_
      refine gf_76 C X hW dX12_deliver_249 ?_
      refine lv_bipush (v := 8) C.1 C.2.1 dX12_deliver_252 (by decide) ?_
      refine lv_iload C.1 C.2.1 dX12_deliver_254 (lv_at hl 4 rfl) ?_
      refine lv_iadd C.1 C.2.1 dX12_deliver_256 ?_
      obtain ⟨hin, h⟩ := ck_ok h
      refine l_76 C X hW hin dX12_deliver_257 ?_
      refine lt_ok h (fun x4 e_x4 h => ?_)
      refine lv_nm e_x4 ?_
      refine lv_istore (lv' := [(6, .int x4), (0, .ref mo), (2, .int v2), (3, .int v3), (4, .int v4), (5, .int v5)]) C.1 C.2.1 dX12_deliver_258 hl (by decide) rfl (fun ls hl => ?_)
      refine lv_aload_n C.1 C.2.1 dX12_deliver_260 rfl (lv_at hl 1 rfl) ?_
      refine lv_iload_n C.1 C.2.1 dX12_deliver_261 rfl (lv_at hl 3 rfl) ?_
      refine lv_iload C.1 C.2.1 dX12_deliver_262 (lv_at hl 0 rfl) ?_
      obtain ⟨r5, h_r5, h⟩ := bd_ok h
      refine m_callR (rest := []) C X hW hl.1 [.int v3, .int x4] (tm_isApplied l h_r5) mw_isApplied im_isApplied sl_isApplied rfl ⟨by decide, by decide⟩ rfl (Nat.le_of_ble_eq_true rfl) dX12_deliver_264 ?_
      refine lv_if_eq (tgt := 273) C.1 C.2.1 dX12_deliver_267 (by decide) (fun c6 => ?_) (fun c6 => ?_)
      · have h := if_t h c6
        refine lv_aload_n C.1 C.2.1 dX12_deliver_273 rfl (lv_at hl 1 rfl) ?_
        refine lv_iload_n C.1 C.2.1 dX12_deliver_274 rfl (lv_at hl 3 rfl) ?_
        refine lv_iload C.1 C.2.1 dX12_deliver_275 (lv_at hl 0 rfl) ?_
        obtain ⟨r7, h_r7, h⟩ := bd_ok h
        refine m_callR (rest := []) C X hW hl.1 [.int v3, .int x4] (tm_isReady l h_r7) mw_isReady im_isReady sl_isReady rfl ⟨by decide, by decide⟩ rfl (Nat.le_of_ble_eq_true rfl) dX12_deliver_277 ?_
        refine lv_if_ne (tgt := 293) C.1 C.2.1 dX12_deliver_280 (by decide) (fun c8 => ?_) (fun c8 => ?_)
        · have h := if_f h c8
          exact wm_deliver_293 C X ih mFU h hW hS (lv_sub hl [1, 2, 3, 4, 5, 0] rfl)
        · have h := if_t h c8
          refine lv_aload_n C.1 C.2.1 dX12_deliver_283 rfl (lv_at hl 1 rfl) ?_
          refine lv_iload_n C.1 C.2.1 dX12_deliver_284 rfl (lv_at hl 3 rfl) ?_
          refine lv_iload C.1 C.2.1 dX12_deliver_285 (lv_at hl 0 rfl) ?_
          obtain ⟨S9, h_S9, h⟩ := bd_ok h
          refine m_callW (rest := []) (ov := none) C X hW hS hl.1 [.int v3, .int x4] (tm_keep l h_S9) mw_keep im_keep sl_keep rfl ⟨by decide, by decide⟩ rfl (Nat.le_of_ble_eq_true rfl) dX12_deliver_287 (fun H locs hW hS => ?_)
          refine W.eq (g2 := F0 m 290 ls []) rfl ?_
          refine lv_goto (tgt := 316) C.1 C.2.1 dX12_deliver_290 (by decide) ?_
          exact wm_deliver_316 C X ih h hW hS (lv_sub hl [1, 2, 3, 4, 5] rfl)
      · have h := if_f h c6
        refine lv_goto (tgt := 316) C.1 C.2.1 dX12_deliver_270 (by decide) ?_
        exact wm_deliver_316 C X ih h hW hS (lv_sub hl [1, 2, 3, 4, 5] rfl)
noncomputable def fm_deliver_228 (g_150 : mSt → Int32 → Int32 → Int32 → Int32 → Option (Int32 × mSt)) (S : mSt) (v2 : Int32) (v3 : Int32) (v4 : Int32) (v5 : Int32) : Option (Int32 × mSt) :=
lt (v5 + (1 : Int32)) fun x1 =>
g_150 S v2 v3 v4 x1
set_option maxRecDepth 100000 in
set_option maxHeartbeats 4000000 in
theorem wm_deliver_228 (C : mY p R s m args meth c cX12_deliver 8 9 224 (some .int)) (X : mX s cM iS cI cZ mo ad) {g_150 : mSt → Int32 → Int32 → Int32 → Int32 → Option (Int32 × mSt)} (hg_150 : ∀ {S : mSt} {v2 : Int32} {v3 : Int32} {v4 : Int32} {v5 : Int32} {H : Heap} {locs : List Loc} {ls : Array Slot}, g_150 S v2 v3 v4 v5 = some (r, S9) → mW cM iS cI cZ mo ad S H → mS (mA mo ad) s.heap H locs → lv_has ls 8 [(0, .ref mo), (2, .int v2), (3, .int v3), (4, .int v4), (5, .int v5)] → W p l e R s m args below meth c H locs 0 0 (MQ below (mQw (some (.int r)) cM iS cI cZ mo ad S9) args s 0 0 (mA mo ad)) (F0 m 150 ls [])) : ∀ {S : mSt} {v2 : Int32} {v3 : Int32} {v4 : Int32} {v5 : Int32} {H : Heap} {locs : List Loc} {ls : Array Slot}, fm_deliver_228 g_150 S v2 v3 v4 v5 = some (r, S9) → mW cM iS cI cZ mo ad S H → mS (mA mo ad) s.heap H locs → lv_has ls 8 [(0, .ref mo), (2, .int v2), (3, .int v3), (4, .int v4), (5, .int v5)] → W p l e R s m args below meth c H locs 0 0 (MQ below (mQw (some (.int r)) cM iS cI cZ mo ad S9) args s 0 0 (mA mo ad)) (F0 m 228 ls []) := by
  intro S v2 v3 v4 v5 H locs ls h hW hS hl
  unfold fm_deliver_228 at h
  refine lt_ok h (fun x1 e_x1 h => ?_)
  refine lv_iinc (v := x1) (lv' := [(5, .int x1), (0, .ref mo), (2, .int v2), (3, .int v3), (4, .int v4)]) C.1 C.2.1 dX12_deliver_228 hl (k := 4) rfl (by rw [← e_x1]; rfl) (by decide) rfl (fun ls hl => ?_)
  refine lv_goto (tgt := 150) C.1 C.2.1 dX12_deliver_231 (by decide) ?_
  exact hg_150 h hW hS (lv_sub hl [1, 2, 3, 4, 0] rfl)
noncomputable def fm_deliver_170 (g_150 : mSt → Int32 → Int32 → Int32 → Int32 → Option (Int32 × mSt)) : Nat → mSt → Int32 → Int32 → Int32 → Int32 → Int32 → Int32 → Option (Int32 × mSt)
  | 0, _, _, _, _, _, _, _ => none
  | n + 1, S, v2, v3, v4, v5, v6, v7 =>
    if v7 < 0 then (
    fm_deliver_228 g_150 S v2 v3 v4 v5)
    else (
    ck ((16 : Int32) + ((4 : Int32) * v5)) 640 (
    ck v6 64 (
    if (rd S 76 ((16 : Int32) + ((4 : Int32) * v5))) ≤ (rd S 31 v6) then (
    fm_deliver_228 g_150 S v2 v3 v4 v5)
    else (
    ck (((16 : Int32) + ((4 : Int32) * v5)) + v7) 640 (
    ck (v6 + v7) 64 (lt (wr S 31 (v6 + v7) (rd S 76 (((16 : Int32) + ((4 : Int32) * v5)) + v7))) fun S3 =>
    lt (v7 + (-1 : Int32)) fun x4 =>
    fm_deliver_170 g_150 n S3 v2 v3 v4 v5 v6 x4))))))
set_option maxRecDepth 100000 in
set_option maxHeartbeats 4000000 in
theorem wm_deliver_170 (C : mY p R s m args meth c cX12_deliver 8 9 224 (some .int)) (X : mX s cM iS cI cZ mo ad) {g_150 : mSt → Int32 → Int32 → Int32 → Int32 → Option (Int32 × mSt)} (hg_150 : ∀ {S : mSt} {v2 : Int32} {v3 : Int32} {v4 : Int32} {v5 : Int32} {H : Heap} {locs : List Loc} {ls : Array Slot}, g_150 S v2 v3 v4 v5 = some (r, S9) → mW cM iS cI cZ mo ad S H → mS (mA mo ad) s.heap H locs → lv_has ls 8 [(0, .ref mo), (2, .int v2), (3, .int v3), (4, .int v4), (5, .int v5)] → W p l e R s m args below meth c H locs 0 0 (MQ below (mQw (some (.int r)) cM iS cI cZ mo ad S9) args s 0 0 (mA mo ad)) (F0 m 150 ls [])) : ∀ (n : Nat), ∀ {S : mSt} {v2 : Int32} {v3 : Int32} {v4 : Int32} {v5 : Int32} {v6 : Int32} {v7 : Int32} {H : Heap} {locs : List Loc} {ls : Array Slot}, fm_deliver_170 g_150 n S v2 v3 v4 v5 v6 v7 = some (r, S9) → mW cM iS cI cZ mo ad S H → mS (mA mo ad) s.heap H locs → lv_has ls 8 [(0, .ref mo), (2, .int v2), (3, .int v3), (4, .int v4), (5, .int v5), (6, .int v6), (7, .int v7)] → W p l e R s m args below meth c H locs 0 0 (MQ below (mQw (some (.int r)) cM iS cI cZ mo ad S9) args s 0 0 (mA mo ad)) (F0 m 170 ls []) := by
  intro n
  induction n with
  | zero =>
    intro S v2 v3 v4 v5 v6 v7 H locs ls h hW hS hl
    exact absurd (show (none : Option (Int32 × mSt)) = _ from h) (fun q => by cases q)
  | succ n ih =>
    intro S v2 v3 v4 v5 v6 v7 H locs ls h hW hS hl
    rw [fm_deliver_170] at h
    refine lv_iload C.1 C.2.1 dX12_deliver_170 (lv_at hl 6 rfl) ?_
    refine lv_if_lt (tgt := 228) C.1 C.2.1 dX12_deliver_172 (by decide) (fun c1 => ?_) (fun c1 => ?_)
    · have h := if_t h c1
      exact wm_deliver_228 C X hg_150 h hW hS (lv_sub hl [0, 1, 2, 3, 4] rfl)
    · have h := if_f h c1
      refine lv_aload_n C.1 C.2.1 dX12_deliver_175 rfl (lv_at hl 0 rfl) ?_
      refine gf_76 C X hW dX12_deliver_176 ?_
      refine lv_bipush (v := 16) C.1 C.2.1 dX12_deliver_179 (by decide) ?_
      refine lv_iconst (v := 4) C.1 C.2.1 dX12_deliver_181 (by decide) ?_
      refine lv_iload C.1 C.2.1 dX12_deliver_182 (lv_at hl 4 rfl) ?_
      refine lv_imul C.1 C.2.1 dX12_deliver_184 ?_
      refine lv_iadd C.1 C.2.1 dX12_deliver_185 ?_
      obtain ⟨hin, h⟩ := ck_ok h
      refine l_76 C X hW hin dX12_deliver_186 ?_
      refine lv_aload_n C.1 C.2.1 dX12_deliver_187 rfl (lv_at hl 0 rfl) ?_
      refine gf_31 C X hW dX12_deliver_188 ?_
      refine lv_iload C.1 C.2.1 dX12_deliver_191 (lv_at hl 5 rfl) ?_
      obtain ⟨hin, h⟩ := ck_ok h
      refine l_31 C X hW hin dX12_deliver_193 ?_
      refine lv_icmp_le (tgt := 228) C.1 C.2.1 dX12_deliver_194 (by decide) (fun c2 => ?_) (fun c2 => ?_)
      · have h := if_t h c2
        exact wm_deliver_228 C X hg_150 h hW hS (lv_sub hl [0, 1, 2, 3, 4] rfl)
      · have h := if_f h c2
        refine lv_aload_n C.1 C.2.1 dX12_deliver_197 rfl (lv_at hl 0 rfl) ?_
        refine gf_31 C X hW dX12_deliver_198 ?_
        refine lv_iload C.1 C.2.1 dX12_deliver_201 (lv_at hl 5 rfl) ?_
        refine lv_iload C.1 C.2.1 dX12_deliver_203 (lv_at hl 6 rfl) ?_
        refine lv_iadd C.1 C.2.1 dX12_deliver_205 ?_
        refine lv_aload_n C.1 C.2.1 dX12_deliver_206 rfl (lv_at hl 0 rfl) ?_
        refine gf_76 C X hW dX12_deliver_207 ?_
        refine lv_bipush (v := 16) C.1 C.2.1 dX12_deliver_210 (by decide) ?_
        refine lv_iconst (v := 4) C.1 C.2.1 dX12_deliver_212 (by decide) ?_
        refine lv_iload C.1 C.2.1 dX12_deliver_213 (lv_at hl 4 rfl) ?_
        refine lv_imul C.1 C.2.1 dX12_deliver_215 ?_
        refine lv_iadd C.1 C.2.1 dX12_deliver_216 ?_
        refine lv_iload C.1 C.2.1 dX12_deliver_217 (lv_at hl 6 rfl) ?_
        refine lv_iadd C.1 C.2.1 dX12_deliver_219 ?_
        obtain ⟨hin, h⟩ := ck_ok h
        refine l_76 C X hW hin dX12_deliver_220 ?_
        obtain ⟨hin, h⟩ := ck_ok h
        refine s_31 C X hW hS hin dX12_deliver_221 (fun H locs hW hS => ?_)
        refine lt_ok h (fun S3 e_S3 h => ?_)
        rw [e_S3] at hW
        refine lt_ok h (fun x4 e_x4 h => ?_)
        refine lv_iinc (v := x4) (lv' := [(7, .int x4), (0, .ref mo), (2, .int v2), (3, .int v3), (4, .int v4), (5, .int v5), (6, .int v6)]) C.1 C.2.1 dX12_deliver_222 hl (k := 6) rfl (by rw [← e_x4]; rfl) (by decide) rfl (fun ls hl => ?_)
        refine lv_goto (tgt := 170) C.1 C.2.1 dX12_deliver_225 (by decide) ?_
        exact ih h hW hS (lv_sub hl [1, 2, 3, 4, 5, 6, 0] rfl)
noncomputable def fm_deliver_150 : Nat → mSt → Int32 → Int32 → Int32 → Int32 → Option (Int32 × mSt)
  | 0, _, _, _, _, _ => none
  | n + 1, S, v2, v3, v4, v5 =>
    if (4 : Int32) ≤ v5 then (
    fm_deliver_237 mFU S v2 v3 v4 (0 : Int32))
    else (
    lt (((16 : Int32) * v3) + ((4 : Int32) * v5)) fun x2 =>
    fm_deliver_170 (fm_deliver_150 n) mFU S v2 v3 v4 v5 x2 (3 : Int32))
set_option maxRecDepth 100000 in
set_option maxHeartbeats 4000000 in
theorem wm_deliver_150 (C : mY p R s m args meth c cX12_deliver 8 9 224 (some .int)) (X : mX s cM iS cI cZ mo ad) : ∀ (n : Nat), ∀ {S : mSt} {v2 : Int32} {v3 : Int32} {v4 : Int32} {v5 : Int32} {H : Heap} {locs : List Loc} {ls : Array Slot}, fm_deliver_150 n S v2 v3 v4 v5 = some (r, S9) → mW cM iS cI cZ mo ad S H → mS (mA mo ad) s.heap H locs → lv_has ls 8 [(0, .ref mo), (2, .int v2), (3, .int v3), (4, .int v4), (5, .int v5)] → W p l e R s m args below meth c H locs 0 0 (MQ below (mQw (some (.int r)) cM iS cI cZ mo ad S9) args s 0 0 (mA mo ad)) (F0 m 150 ls []) := by
  intro n
  induction n with
  | zero =>
    intro S v2 v3 v4 v5 H locs ls h hW hS hl
    exact absurd (show (none : Option (Int32 × mSt)) = _ from h) (fun q => by cases q)
  | succ n ih =>
    intro S v2 v3 v4 v5 H locs ls h hW hS hl
    rw [fm_deliver_150] at h
    refine lv_iload C.1 C.2.1 dX12_deliver_150 (lv_at hl 4 rfl) ?_
    refine lv_iconst (v := 4) C.1 C.2.1 dX12_deliver_152 (by decide) ?_
    refine lv_icmp_ge (tgt := 234) C.1 C.2.1 dX12_deliver_153 (by decide) (fun c1 => ?_) (fun c1 => ?_)
    · have h := if_t h c1
      refine lv_iconst (v := 0) C.1 C.2.1 dX12_deliver_234 (by decide) ?_
      refine lv_istore (lv' := [(5, .int (0 : Int32)), (0, .ref mo), (2, .int v2), (3, .int v3), (4, .int v4)]) C.1 C.2.1 dX12_deliver_235 hl (by decide) rfl (fun ls hl => ?_)
      exact wm_deliver_237 C X mFU h hW hS (lv_sub hl [1, 2, 3, 4, 0] rfl)
    · have h := if_f h c1
      refine lv_bipush (v := 16) C.1 C.2.1 dX12_deliver_156 (by decide) ?_
      refine lv_iload_n C.1 C.2.1 dX12_deliver_158 rfl (lv_at hl 2 rfl) ?_
      refine lv_imul C.1 C.2.1 dX12_deliver_159 ?_
      refine lv_iconst (v := 4) C.1 C.2.1 dX12_deliver_160 (by decide) ?_
      refine lv_iload C.1 C.2.1 dX12_deliver_161 (lv_at hl 4 rfl) ?_
      refine lv_imul C.1 C.2.1 dX12_deliver_163 ?_
      refine lv_iadd C.1 C.2.1 dX12_deliver_164 ?_
      refine lt_ok h (fun x2 e_x2 h => ?_)
      refine lv_nm e_x2 ?_
      refine lv_istore (lv' := [(6, .int x2), (0, .ref mo), (2, .int v2), (3, .int v3), (4, .int v4), (5, .int v5)]) C.1 C.2.1 dX12_deliver_165 hl (by decide) rfl (fun ls hl => ?_)
      refine lv_iconst (v := 3) C.1 C.2.1 dX12_deliver_167 (by decide) ?_
      refine lv_istore (lv' := [(7, .int (3 : Int32)), (6, .int x2), (0, .ref mo), (2, .int v2), (3, .int v3), (4, .int v4), (5, .int v5)]) C.1 C.2.1 dX12_deliver_168 hl (by decide) rfl (fun ls hl => ?_)
      exact wm_deliver_170 C X ih mFU h hW hS (lv_sub hl [2, 3, 4, 5, 6, 1, 0] rfl)
noncomputable def fm_deliver_140 (g_77 : mSt → Int32 → Int32 → Int32 → Int32 → Option (Int32 × mSt)) (S : mSt) (v2 : Int32) (v3 : Int32) (v4 : Int32) (v5 : Int32) (s1 : Int32) (s2 : Int32) : Option (Int32 × mSt) :=
ck s1 64 (lt (wr S 21 s1 s2) fun S1 =>
lt (v5 + (1 : Int32)) fun x2 =>
g_77 S1 v2 v3 v4 x2)
set_option maxRecDepth 100000 in
set_option maxHeartbeats 4000000 in
theorem wm_deliver_140 (C : mY p R s m args meth c cX12_deliver 8 9 224 (some .int)) (X : mX s cM iS cI cZ mo ad) {g_77 : mSt → Int32 → Int32 → Int32 → Int32 → Option (Int32 × mSt)} (hg_77 : ∀ {S : mSt} {v2 : Int32} {v3 : Int32} {v4 : Int32} {v5 : Int32} {H : Heap} {locs : List Loc} {ls : Array Slot}, g_77 S v2 v3 v4 v5 = some (r, S9) → mW cM iS cI cZ mo ad S H → mS (mA mo ad) s.heap H locs → lv_has ls 8 [(0, .ref mo), (2, .int v2), (3, .int v3), (4, .int v4), (5, .int v5)] → W p l e R s m args below meth c H locs 0 0 (MQ below (mQw (some (.int r)) cM iS cI cZ mo ad S9) args s 0 0 (mA mo ad)) (F0 m 77 ls [])) : ∀ {S : mSt} {v2 : Int32} {v3 : Int32} {v4 : Int32} {v5 : Int32} {s1 : Int32} {s2 : Int32} {H : Heap} {locs : List Loc} {ls : Array Slot}, fm_deliver_140 g_77 S v2 v3 v4 v5 s1 s2 = some (r, S9) → mW cM iS cI cZ mo ad S H → mS (mA mo ad) s.heap H locs → lv_has ls 8 [(0, .ref mo), (2, .int v2), (3, .int v3), (4, .int v4), (5, .int v5)] → W p l e R s m args below meth c H locs 0 0 (MQ below (mQw (some (.int r)) cM iS cI cZ mo ad S9) args s 0 0 (mA mo ad)) (F0 m 140 ls [.int s2, .int s1, .ref (ad 21)]) := by
  intro S v2 v3 v4 v5 s1 s2 H locs ls h hW hS hl
  unfold fm_deliver_140 at h
  obtain ⟨hin, h⟩ := ck_ok h
  refine s_21 C X hW hS hin dX12_deliver_140 (fun H locs hW hS => ?_)
  refine lt_ok h (fun S1 e_S1 h => ?_)
  rw [e_S1] at hW
  refine lt_ok h (fun x2 e_x2 h => ?_)
  refine lv_iinc (v := x2) (lv' := [(5, .int x2), (0, .ref mo), (2, .int v2), (3, .int v3), (4, .int v4)]) C.1 C.2.1 dX12_deliver_141 hl (k := 4) rfl (by rw [← e_x2]; rfl) (by decide) rfl (fun ls hl => ?_)
  refine lv_goto (tgt := 77) C.1 C.2.1 dX12_deliver_144 (by decide) ?_
  exact hg_77 h hW hS (lv_sub hl [1, 2, 3, 4, 0] rfl)
noncomputable def fm_deliver_77 : Nat → mSt → Int32 → Int32 → Int32 → Int32 → Option (Int32 × mSt)
  | 0, _, _, _, _, _ => none
  | n + 1, S, v2, v3, v4, v5 =>
    if (4 : Int32) ≤ v5 then (
    fm_deliver_150 mFU S v2 v3 v4 (0 : Int32))
    else (
    lt ((((16 : Int32) * v3) + ((4 : Int32) * v2)) + v5) fun x2 =>
    ck ((4 : Int32) + v5) 640 (
    ck x2 64 (
    if (rd S 76 ((4 : Int32) + v5)) ≤ (rd S 21 x2) then (
    ck x2 64 (
    fm_deliver_140 (fm_deliver_77 n) S v2 v3 v4 v5 x2 (rd S 21 x2)))
    else (
    ck ((4 : Int32) + v5) 640 (
    fm_deliver_140 (fm_deliver_77 n) S v2 v3 v4 v5 x2 (rd S 76 ((4 : Int32) + v5)))))))
set_option maxRecDepth 100000 in
set_option maxHeartbeats 4000000 in
theorem wm_deliver_77 (C : mY p R s m args meth c cX12_deliver 8 9 224 (some .int)) (X : mX s cM iS cI cZ mo ad) : ∀ (n : Nat), ∀ {S : mSt} {v2 : Int32} {v3 : Int32} {v4 : Int32} {v5 : Int32} {H : Heap} {locs : List Loc} {ls : Array Slot}, fm_deliver_77 n S v2 v3 v4 v5 = some (r, S9) → mW cM iS cI cZ mo ad S H → mS (mA mo ad) s.heap H locs → lv_has ls 8 [(0, .ref mo), (2, .int v2), (3, .int v3), (4, .int v4), (5, .int v5)] → W p l e R s m args below meth c H locs 0 0 (MQ below (mQw (some (.int r)) cM iS cI cZ mo ad S9) args s 0 0 (mA mo ad)) (F0 m 77 ls []) := by
  intro n
  induction n with
  | zero =>
    intro S v2 v3 v4 v5 H locs ls h hW hS hl
    exact absurd (show (none : Option (Int32 × mSt)) = _ from h) (fun q => by cases q)
  | succ n ih =>
    intro S v2 v3 v4 v5 H locs ls h hW hS hl
    rw [fm_deliver_77] at h
    refine lv_iload C.1 C.2.1 dX12_deliver_77 (lv_at hl 4 rfl) ?_
    refine lv_iconst (v := 4) C.1 C.2.1 dX12_deliver_79 (by decide) ?_
    refine lv_icmp_ge (tgt := 147) C.1 C.2.1 dX12_deliver_80 (by decide) (fun c1 => ?_) (fun c1 => ?_)
    · have h := if_t h c1
      refine lv_iconst (v := 0) C.1 C.2.1 dX12_deliver_147 (by decide) ?_
      refine lv_istore (lv' := [(5, .int (0 : Int32)), (0, .ref mo), (2, .int v2), (3, .int v3), (4, .int v4)]) C.1 C.2.1 dX12_deliver_148 hl (by decide) rfl (fun ls hl => ?_)
      exact wm_deliver_150 C X mFU h hW hS (lv_sub hl [1, 2, 3, 4, 0] rfl)
    · have h := if_f h c1
      refine lv_bipush (v := 16) C.1 C.2.1 dX12_deliver_83 (by decide) ?_
      refine lv_iload_n C.1 C.2.1 dX12_deliver_85 rfl (lv_at hl 2 rfl) ?_
      refine lv_imul C.1 C.2.1 dX12_deliver_86 ?_
      refine lv_iconst (v := 4) C.1 C.2.1 dX12_deliver_87 (by decide) ?_
      refine lv_iload_n C.1 C.2.1 dX12_deliver_88 rfl (lv_at hl 1 rfl) ?_
      refine lv_imul C.1 C.2.1 dX12_deliver_89 ?_
      refine lv_iadd C.1 C.2.1 dX12_deliver_90 ?_
      refine lv_iload C.1 C.2.1 dX12_deliver_91 (lv_at hl 4 rfl) ?_
      refine lv_iadd C.1 C.2.1 dX12_deliver_93 ?_
      refine lt_ok h (fun x2 e_x2 h => ?_)
      refine lv_nm e_x2 ?_
      refine lv_istore (lv' := [(6, .int x2), (0, .ref mo), (2, .int v2), (3, .int v3), (4, .int v4), (5, .int v5)]) C.1 C.2.1 dX12_deliver_94 hl (by decide) rfl (fun ls hl => ?_)
      refine lv_aload_n C.1 C.2.1 dX12_deliver_96 rfl (lv_at hl 1 rfl) ?_
      refine gf_21 C X hW dX12_deliver_97 ?_
      refine lv_iload C.1 C.2.1 dX12_deliver_100 (lv_at hl 0 rfl) ?_
      refine lv_aload_n C.1 C.2.1 dX12_deliver_102 rfl (lv_at hl 1 rfl) ?_
      refine gf_76 C X hW dX12_deliver_103 ?_
      refine lv_iconst (v := 4) C.1 C.2.1 dX12_deliver_106 (by decide) ?_
      refine lv_iload C.1 C.2.1 dX12_deliver_107 (lv_at hl 5 rfl) ?_
      refine lv_iadd C.1 C.2.1 dX12_deliver_109 ?_
      obtain ⟨hin, h⟩ := ck_ok h
      refine l_76 C X hW hin dX12_deliver_110 ?_
      refine lv_aload_n C.1 C.2.1 dX12_deliver_111 rfl (lv_at hl 1 rfl) ?_
      refine gf_21 C X hW dX12_deliver_112 ?_
      refine lv_iload C.1 C.2.1 dX12_deliver_115 (lv_at hl 0 rfl) ?_
      obtain ⟨hin, h⟩ := ck_ok h
      refine l_21 C X hW hin dX12_deliver_117 ?_
      refine lv_icmp_le (tgt := 133) C.1 C.2.1 dX12_deliver_118 (by decide) (fun c3 => ?_) (fun c3 => ?_)
      · have h := if_t h c3
        refine lv_aload_n C.1 C.2.1 dX12_deliver_133 rfl (lv_at hl 1 rfl) ?_
        refine gf_21 C X hW dX12_deliver_134 ?_
        refine lv_iload C.1 C.2.1 dX12_deliver_137 (lv_at hl 0 rfl) ?_
        obtain ⟨hin, h⟩ := ck_ok h
        refine l_21 C X hW hin dX12_deliver_139 ?_
        exact wm_deliver_140 C X ih h hW hS (lv_sub hl [1, 2, 3, 4, 5] rfl)
      · have h := if_f h c3
        refine lv_aload_n C.1 C.2.1 dX12_deliver_121 rfl (lv_at hl 1 rfl) ?_
        refine gf_76 C X hW dX12_deliver_122 ?_
        refine lv_iconst (v := 4) C.1 C.2.1 dX12_deliver_125 (by decide) ?_
        refine lv_iload C.1 C.2.1 dX12_deliver_126 (lv_at hl 5 rfl) ?_
        refine lv_iadd C.1 C.2.1 dX12_deliver_128 ?_
        obtain ⟨hin, h⟩ := ck_ok h
        refine l_76 C X hW hin dX12_deliver_129 ?_
        refine lv_goto (tgt := 140) C.1 C.2.1 dX12_deliver_130 (by decide) ?_
        exact wm_deliver_140 C X ih h hW hS (lv_sub hl [1, 2, 3, 4, 5] rfl)
noncomputable def fm_deliver (S : mSt) (v1 : Int32) : Option (Int32 × mSt) :=
lt (pu S 0 (0 : Int32)) fun S1 =>
bd (fm_within v1 (0 : Int32) ((S1.1 42) - (1 : Int32))) fun r2 =>
if r2 = 0 then (
some ((-1 : Int32), S1))
else (
bd (fm_isBent S1 v1) fun r4 =>
if r4 = 0 then (
bd (fm_remove S1 v1) fun S6 =>
ck (0 : Int32) 640 (
lt (rd S6 76 (0 : Int32)) fun x7 =>
ck (1 : Int32) 640 (
lt (rd S6 76 (1 : Int32)) fun x8 =>
ck x8 4 (
lt (rd S6 23 x8) fun x9 =>
fm_deliver_77 mFU S6 x7 x8 x9 (0 : Int32)))))
else (
bd (fm_remove S1 v1) fun S10 =>
lt (pu S10 44 ((S10.1 44) + (1 : Int32))) fun S11 =>
some ((-2 : Int32), S11)))
set_option maxRecDepth 100000 in
set_option maxHeartbeats 4000000 in
theorem tm_deliver (l : Launch) {cM : ClassId} {iS : Nat → Nat} {cI cZ : ClassId} {mo : Nat} {ad : Nat → Nat} {S : mSt} {v1 : Int32} {r : Int32} {S9 : mSt} (h : fm_deliver S v1 = some (r, S9)) : Met l yX12_deliver (Cond.code yX12_deliver cX12_deliver 8 (some .int) :: lw_g) { frames := 9, cells := 0, slots := 0, locals := 224 } (mPi [.int v1] cM iS cI cZ mo ad S) (mQw (some (.int r)) cM iS cI cZ mo ad S9) 0 0 (mA mo ad) := by
  refine Met.ofW (cc := cX12_deliver) (maxL := 8) (ret := (some .int)) (by decide) rfl ?_
  intro p e s m args below meth c s₁ B hml hv
  obtain ⟨rfl, hW, X⟩ := hv
  have C : mY p (headSpec (Cond.code yX12_deliver cX12_deliver 8 (some .int) :: lw_g) { frames := 9, cells := 0, slots := 0, locals := 224 }).room s m _ meth c cX12_deliver 8 9 224 (some .int) := ⟨B.exec, B.bytes, hml, findClass_of_methodNamed B.named, fun w hw => atoms_spec (ws := Cond.code yX12_deliver cX12_deliver 8 (some .int) :: lw_g) B.pre w (List.mem_cons_of_mem _ hw), ⟨Nat.le_refl _, Nat.le_refl _⟩, B.returns, B.notSynchronized⟩
  have hl := lv_entry ([.ref mo, .int v1]) (n := 8) (Nat.le_of_ble_eq_true rfl)
  rw [lg_entry_eq]
  generalize (lg_sl ([.ref mo, .int v1]) ++ List.replicate (8 - (lg_sl ([.ref mo, .int v1])).length) Slot.unset).toArray = ls at hl ⊢
  have hl : lv_has ls 8 [(0, .ref mo), (1, .int v1)] := hl
  have hS : mS (mA mo ad) s.heap s.heap [] := mS.rf
  unfold fm_deliver at h
  refine lv_aload_n C.1 C.2.1 dX12_deliver_0 rfl (lv_at hl 0 rfl) ?_
  refine lv_iconst (v := 0) C.1 C.2.1 dX12_deliver_1 (by decide) ?_
  refine p_0 C X hW hS dX12_deliver_2 (fun H locs hW hS => ?_)
  refine lt_ok h (fun S1 e_S1 h => ?_)
  rw [e_S1] at hW
  refine lv_iload_n C.1 C.2.1 dX12_deliver_5 rfl (lv_at hl 1 rfl) ?_
  refine lv_iconst (v := 0) C.1 C.2.1 dX12_deliver_6 (by decide) ?_
  refine lv_aload_n C.1 C.2.1 dX12_deliver_7 rfl (lv_at hl 0 rfl) ?_
  refine gf_42 C X hW dX12_deliver_8 ?_
  refine lv_iconst (v := 1) C.1 C.2.1 dX12_deliver_11 (by decide) ?_
  refine lv_isub C.1 C.2.1 dX12_deliver_12 ?_
  obtain ⟨r2, h_r2, h⟩ := bd_ok h
  refine m_callS (rest := []) C hl.1 [.int v1, .int (0 : Int32), .int ((S1.1 42) - (1 : Int32))] (tm_within l h_r2) mw_within st_within rfl ⟨by decide, by decide⟩ rfl (Nat.le_of_ble_eq_true rfl) dX12_deliver_13 ?_
  refine lv_if_ne (tgt := 21) C.1 C.2.1 dX12_deliver_16 (by decide) (fun c3 => ?_) (fun c3 => ?_)
  · have h := if_f h c3
    refine lv_aload_n C.1 C.2.1 dX12_deliver_21 rfl (lv_at hl 0 rfl) ?_
    refine lv_iload_n C.1 C.2.1 dX12_deliver_22 rfl (lv_at hl 1 rfl) ?_
    obtain ⟨r4, h_r4, h⟩ := bd_ok h
    refine m_callR (rest := []) C X hW hl.1 [.int v1] (tm_isBent l h_r4) mw_isBent im_isBent sl_isBent rfl ⟨by decide, by decide⟩ rfl (Nat.le_of_ble_eq_true rfl) dX12_deliver_23 ?_
    refine lv_if_eq (tgt := 47) C.1 C.2.1 dX12_deliver_26 (by decide) (fun c5 => ?_) (fun c5 => ?_)
    · have h := if_t h c5
      refine lv_aload_n C.1 C.2.1 dX12_deliver_47 rfl (lv_at hl 0 rfl) ?_
      refine lv_iload_n C.1 C.2.1 dX12_deliver_48 rfl (lv_at hl 1 rfl) ?_
      obtain ⟨S6, h_S6, h⟩ := bd_ok h
      refine m_callW (rest := []) (ov := none) C X hW hS hl.1 [.int v1] (tm_remove l h_S6) mw_remove im_remove sl_remove rfl ⟨by decide, by decide⟩ rfl (Nat.le_of_ble_eq_true rfl) dX12_deliver_49 (fun H locs hW hS => ?_)
      refine W.eq (g2 := F0 m 52 ls []) rfl ?_
      refine lv_aload_n C.1 C.2.1 dX12_deliver_52 rfl (lv_at hl 0 rfl) ?_
      refine gf_76 C X hW dX12_deliver_53 ?_
      refine lv_iconst (v := 0) C.1 C.2.1 dX12_deliver_56 (by decide) ?_
      obtain ⟨hin, h⟩ := ck_ok h
      refine l_76 C X hW hin dX12_deliver_57 ?_
      refine lt_ok h (fun x7 e_x7 h => ?_)
      refine lv_nm e_x7 ?_
      refine lv_istore_n (lv' := [(2, .int x7), (0, .ref mo), (1, .int v1)]) C.1 C.2.1 dX12_deliver_58 rfl hl (by decide) rfl (fun ls hl => ?_)
      refine lv_aload_n C.1 C.2.1 dX12_deliver_59 rfl (lv_at hl 1 rfl) ?_
      refine gf_76 C X hW dX12_deliver_60 ?_
      refine lv_iconst (v := 1) C.1 C.2.1 dX12_deliver_63 (by decide) ?_
      obtain ⟨hin, h⟩ := ck_ok h
      refine l_76 C X hW hin dX12_deliver_64 ?_
      refine lt_ok h (fun x8 e_x8 h => ?_)
      refine lv_nm e_x8 ?_
      refine lv_istore_n (lv' := [(3, .int x8), (2, .int x7), (0, .ref mo), (1, .int v1)]) C.1 C.2.1 dX12_deliver_65 rfl hl (by decide) rfl (fun ls hl => ?_)
      refine lv_aload_n C.1 C.2.1 dX12_deliver_66 rfl (lv_at hl 2 rfl) ?_
      refine gf_23 C X hW dX12_deliver_67 ?_
      refine lv_iload_n C.1 C.2.1 dX12_deliver_70 rfl (lv_at hl 0 rfl) ?_
      obtain ⟨hin, h⟩ := ck_ok h
      refine l_23 C X hW hin dX12_deliver_71 ?_
      refine lt_ok h (fun x9 e_x9 h => ?_)
      refine lv_nm e_x9 ?_
      refine lv_istore (lv' := [(4, .int x9), (3, .int x8), (2, .int x7), (0, .ref mo), (1, .int v1)]) C.1 C.2.1 dX12_deliver_72 hl (by decide) rfl (fun ls hl => ?_)
      refine lv_iconst (v := 0) C.1 C.2.1 dX12_deliver_74 (by decide) ?_
      refine lv_istore (lv' := [(5, .int (0 : Int32)), (4, .int x9), (3, .int x8), (2, .int x7), (0, .ref mo), (1, .int v1)]) C.1 C.2.1 dX12_deliver_75 hl (by decide) rfl (fun ls hl => ?_)
      exact wm_deliver_77 C X mFU h hW hS (lv_sub hl [4, 3, 2, 1, 0] rfl)
    · have h := if_f h c5
      refine lv_aload_n C.1 C.2.1 dX12_deliver_29 rfl (lv_at hl 0 rfl) ?_
      refine lv_iload_n C.1 C.2.1 dX12_deliver_30 rfl (lv_at hl 1 rfl) ?_
      obtain ⟨S10, h_S10, h⟩ := bd_ok h
      refine m_callW (rest := []) (ov := none) C X hW hS hl.1 [.int v1] (tm_remove l h_S10) mw_remove im_remove sl_remove rfl ⟨by decide, by decide⟩ rfl (Nat.le_of_ble_eq_true rfl) dX12_deliver_31 (fun H locs hW hS => ?_)
      refine W.eq (g2 := F0 m 34 ls []) rfl ?_
      refine lv_aload_n C.1 C.2.1 dX12_deliver_34 rfl (lv_at hl 0 rfl) ?_
      refine lv_dup C.1 C.2.1 dX12_deliver_35 rfl ?_
      refine gf_44 C X hW dX12_deliver_36 ?_
      refine lv_iconst (v := 1) C.1 C.2.1 dX12_deliver_39 (by decide) ?_
      refine lv_iadd C.1 C.2.1 dX12_deliver_40 ?_
      refine p_44 C X hW hS dX12_deliver_41 (fun H locs hW hS => ?_)
      refine lt_ok h (fun S11 e_S11 h => ?_)
      rw [e_S11] at hW
      refine lv_bipush (v := -2) C.1 C.2.1 dX12_deliver_44 (by decide) ?_
      cases h
      exact m_retiW C hW hS dX12_deliver_46
  · have h := if_t h c3
    refine lv_iconst (v := -1) C.1 C.2.1 dX12_deliver_19 (by decide) ?_
    cases h
    exact m_retiW C hW hS dX12_deliver_20
end
theorem dX12_lose_0 : decode cX12_lose 0 = .ok (.aload_n 0, 1) := by decide +kernel
theorem dX12_lose_1 : decode cX12_lose 1 = .ok (.iconst 0, 1) := by decide +kernel
theorem dX12_lose_2 : decode cX12_lose 2 = .ok (.putfield 200, 3) := by decide +kernel
theorem dX12_lose_5 : decode cX12_lose 5 = .ok (.iload_n 1, 1) := by decide +kernel
theorem dX12_lose_6 : decode cX12_lose 6 = .ok (.iconst 0, 1) := by decide +kernel
theorem dX12_lose_7 : decode cX12_lose 7 = .ok (.aload_n 0, 1) := by decide +kernel
theorem dX12_lose_8 : decode cX12_lose 8 = .ok (.getfield 428, 3) := by decide +kernel
theorem dX12_lose_11 : decode cX12_lose 11 = .ok (.iconst 1, 1) := by decide +kernel
theorem dX12_lose_12 : decode cX12_lose 12 = .ok (.isub, 1) := by decide +kernel
theorem dX12_lose_13 : decode cX12_lose 13 = .ok (.invokestatic 215, 3) := by decide +kernel
theorem dX12_lose_16 : decode cX12_lose 16 = .ok (.ifCond .ne 5, 3) := by decide +kernel
theorem dX12_lose_19 : decode cX12_lose 19 = .ok (.iconst 0, 1) := by decide +kernel
theorem dX12_lose_20 : decode cX12_lose 20 = .ok (.ireturn, 1) := by decide +kernel
theorem dX12_lose_21 : decode cX12_lose 21 = .ok (.aload_n 0, 1) := by decide +kernel
theorem dX12_lose_22 : decode cX12_lose 22 = .ok (.iload_n 1, 1) := by decide +kernel
theorem dX12_lose_23 : decode cX12_lose 23 = .ok (.invokevirtual 470, 3) := by decide +kernel
theorem dX12_lose_26 : decode cX12_lose 26 = .ok (.aload_n 0, 1) := by decide +kernel
theorem dX12_lose_27 : decode cX12_lose 27 = .ok (.dup, 1) := by decide +kernel
theorem dX12_lose_28 : decode cX12_lose 28 = .ok (.getfield 482, 3) := by decide +kernel
theorem dX12_lose_31 : decode cX12_lose 31 = .ok (.iconst 1, 1) := by decide +kernel
theorem dX12_lose_32 : decode cX12_lose 32 = .ok (.iadd, 1) := by decide +kernel
theorem dX12_lose_33 : decode cX12_lose 33 = .ok (.putfield 482, 3) := by decide +kernel
theorem dX12_lose_36 : decode cX12_lose 36 = .ok (.iconst 1, 1) := by decide +kernel
theorem dX12_lose_37 : decode cX12_lose 37 = .ok (.ireturn, 1) := by decide +kernel
theorem cd_lose : Cond.code yX12_lose cX12_lose 2 (some .boolean) ∈ lw_g := mt_at 2288 (by decide +kernel) rfl
section
variable {p : Program} {l : Launch} {e : Env} {R : Room} {s : State} {m : MethodId} {args : Array Value} {below : List Frame} {meth : Method} {c : Code} {cM : ClassId} {iS : Nat → Nat} {cI cZ : ClassId} {mo : Nat} {ad : Nat → Nat} {r : Int32} {S9 : mSt}
noncomputable def fm_lose (S : mSt) (v1 : Int32) : Option (Int32 × mSt) :=
lt (pu S 0 (0 : Int32)) fun S1 =>
bd (fm_within v1 (0 : Int32) ((S1.1 42) - (1 : Int32))) fun r2 =>
if r2 = 0 then (
ckz (0 : Int32) (some ((0 : Int32), S1)))
else (
bd (fm_remove S1 v1) fun S4 =>
lt (pu S4 43 ((S4.1 43) + (1 : Int32))) fun S5 =>
ckz (1 : Int32) (some ((1 : Int32), S5)))
set_option maxRecDepth 100000 in
set_option maxHeartbeats 4000000 in
theorem tm_lose (l : Launch) {cM : ClassId} {iS : Nat → Nat} {cI cZ : ClassId} {mo : Nat} {ad : Nat → Nat} {S : mSt} {v1 : Int32} {r : Int32} {S9 : mSt} (h : fm_lose S v1 = some (r, S9)) : Met l yX12_lose (Cond.code yX12_lose cX12_lose 2 (some .boolean) :: lw_g) { frames := 1, cells := 0, slots := 0, locals := 22 } (mPi [.int v1] cM iS cI cZ mo ad S) (mQw (some (.int r)) cM iS cI cZ mo ad S9) 0 0 (mA mo ad) := by
  refine Met.ofW (cc := cX12_lose) (maxL := 2) (ret := (some .boolean)) (by decide) rfl ?_
  intro p e s m args below meth c s₁ B hml hv
  obtain ⟨rfl, hW, X⟩ := hv
  have C : mY p (headSpec (Cond.code yX12_lose cX12_lose 2 (some .boolean) :: lw_g) { frames := 1, cells := 0, slots := 0, locals := 22 }).room s m _ meth c cX12_lose 2 1 22 (some .boolean) := ⟨B.exec, B.bytes, hml, findClass_of_methodNamed B.named, fun w hw => atoms_spec (ws := Cond.code yX12_lose cX12_lose 2 (some .boolean) :: lw_g) B.pre w (List.mem_cons_of_mem _ hw), ⟨Nat.le_refl _, Nat.le_refl _⟩, B.returns, B.notSynchronized⟩
  have hl := lv_entry ([.ref mo, .int v1]) (n := 2) (Nat.le_of_ble_eq_true rfl)
  rw [lg_entry_eq]
  generalize (lg_sl ([.ref mo, .int v1]) ++ List.replicate (2 - (lg_sl ([.ref mo, .int v1])).length) Slot.unset).toArray = ls at hl ⊢
  have hl : lv_has ls 2 [(0, .ref mo), (1, .int v1)] := hl
  have hS : mS (mA mo ad) s.heap s.heap [] := mS.rf
  unfold fm_lose at h
  refine lv_aload_n C.1 C.2.1 dX12_lose_0 rfl (lv_at hl 0 rfl) ?_
  refine lv_iconst (v := 0) C.1 C.2.1 dX12_lose_1 (by decide) ?_
  refine p_0 C X hW hS dX12_lose_2 (fun H locs hW hS => ?_)
  refine lt_ok h (fun S1 e_S1 h => ?_)
  rw [e_S1] at hW
  refine lv_iload_n C.1 C.2.1 dX12_lose_5 rfl (lv_at hl 1 rfl) ?_
  refine lv_iconst (v := 0) C.1 C.2.1 dX12_lose_6 (by decide) ?_
  refine lv_aload_n C.1 C.2.1 dX12_lose_7 rfl (lv_at hl 0 rfl) ?_
  refine gf_42 C X hW dX12_lose_8 ?_
  refine lv_iconst (v := 1) C.1 C.2.1 dX12_lose_11 (by decide) ?_
  refine lv_isub C.1 C.2.1 dX12_lose_12 ?_
  obtain ⟨r2, h_r2, h⟩ := bd_ok h
  refine m_callS (rest := []) C hl.1 [.int v1, .int (0 : Int32), .int ((S1.1 42) - (1 : Int32))] (tm_within l h_r2) mw_within st_within rfl ⟨by decide, by decide⟩ rfl (Nat.le_of_ble_eq_true rfl) dX12_lose_13 ?_
  refine lv_if_ne (tgt := 21) C.1 C.2.1 dX12_lose_16 (by decide) (fun c3 => ?_) (fun c3 => ?_)
  · have h := if_f h c3
    refine lv_aload_n C.1 C.2.1 dX12_lose_21 rfl (lv_at hl 0 rfl) ?_
    refine lv_iload_n C.1 C.2.1 dX12_lose_22 rfl (lv_at hl 1 rfl) ?_
    obtain ⟨S4, h_S4, h⟩ := bd_ok h
    refine m_callW (rest := []) (ov := none) C X hW hS hl.1 [.int v1] (tm_remove l h_S4) mw_remove im_remove sl_remove rfl ⟨by decide, by decide⟩ rfl (Nat.le_of_ble_eq_true rfl) dX12_lose_23 (fun H locs hW hS => ?_)
    refine W.eq (g2 := F0 m 26 ls []) rfl ?_
    refine lv_aload_n C.1 C.2.1 dX12_lose_26 rfl (lv_at hl 0 rfl) ?_
    refine lv_dup C.1 C.2.1 dX12_lose_27 rfl ?_
    refine gf_43 C X hW dX12_lose_28 ?_
    refine lv_iconst (v := 1) C.1 C.2.1 dX12_lose_31 (by decide) ?_
    refine lv_iadd C.1 C.2.1 dX12_lose_32 ?_
    refine p_43 C X hW hS dX12_lose_33 (fun H locs hW hS => ?_)
    refine lt_ok h (fun S5 e_S5 h => ?_)
    rw [e_S5] at hW
    refine lv_iconst (v := 1) C.1 C.2.1 dX12_lose_36 (by decide) ?_
    obtain ⟨hzo, h⟩ := ckz_ok h
    cases h
    exact m_retzW C hzo hW hS dX12_lose_37
  · have h := if_t h c3
    refine lv_iconst (v := 0) C.1 C.2.1 dX12_lose_19 (by decide) ?_
    obtain ⟨hzo, h⟩ := ckz_ok h
    cases h
    exact m_retzW C hzo hW hS dX12_lose_20
end
theorem dX12_twice_0 : decode cX12_twice 0 = .ok (.aload_n 0, 1) := by decide +kernel
theorem dX12_twice_1 : decode cX12_twice 1 = .ok (.iconst 0, 1) := by decide +kernel
theorem dX12_twice_2 : decode cX12_twice 2 = .ok (.putfield 200, 3) := by decide +kernel
theorem dX12_twice_5 : decode cX12_twice 5 = .ok (.iload_n 1, 1) := by decide +kernel
theorem dX12_twice_6 : decode cX12_twice 6 = .ok (.iconst 0, 1) := by decide +kernel
theorem dX12_twice_7 : decode cX12_twice 7 = .ok (.aload_n 0, 1) := by decide +kernel
theorem dX12_twice_8 : decode cX12_twice 8 = .ok (.getfield 428, 3) := by decide +kernel
theorem dX12_twice_11 : decode cX12_twice 11 = .ok (.iconst 1, 1) := by decide +kernel
theorem dX12_twice_12 : decode cX12_twice 12 = .ok (.isub, 1) := by decide +kernel
theorem dX12_twice_13 : decode cX12_twice 13 = .ok (.invokestatic 215, 3) := by decide +kernel
theorem dX12_twice_16 : decode cX12_twice 16 = .ok (.ifCond .eq 12, 3) := by decide +kernel
theorem dX12_twice_19 : decode cX12_twice 19 = .ok (.aload_n 0, 1) := by decide +kernel
theorem dX12_twice_20 : decode cX12_twice 20 = .ok (.getfield 428, 3) := by decide +kernel
theorem dX12_twice_23 : decode cX12_twice 23 = .ok (.bipush 60, 2) := by decide +kernel
theorem dX12_twice_25 : decode cX12_twice 25 = .ok (.if_icmp .ne 5, 3) := by decide +kernel
theorem dX12_twice_28 : decode cX12_twice 28 = .ok (.iconst 0, 1) := by decide +kernel
theorem dX12_twice_29 : decode cX12_twice 29 = .ok (.ireturn, 1) := by decide +kernel
theorem dX12_twice_30 : decode cX12_twice 30 = .ok (.iconst 0, 1) := by decide +kernel
theorem dX12_twice_31 : decode cX12_twice 31 = .ok (.istore_n 2, 1) := by decide +kernel
theorem dX12_twice_32 : decode cX12_twice 32 = .ok (.iload_n 2, 1) := by decide +kernel
theorem dX12_twice_33 : decode cX12_twice 33 = .ok (.sipush 640, 3) := by decide +kernel
theorem dX12_twice_36 : decode cX12_twice 36 = .ok (.if_icmp .ge 36, 3) := by decide +kernel
theorem dX12_twice_39 : decode cX12_twice 39 = .ok (.aload_n 0, 1) := by decide +kernel
theorem dX12_twice_40 : decode cX12_twice 40 = .ok (.getfield 130, 3) := by decide +kernel
theorem dX12_twice_43 : decode cX12_twice 43 = .ok (.sipush 640, 3) := by decide +kernel
theorem dX12_twice_46 : decode cX12_twice 46 = .ok (.aload_n 0, 1) := by decide +kernel
theorem dX12_twice_47 : decode cX12_twice 47 = .ok (.getfield 428, 3) := by decide +kernel
theorem dX12_twice_50 : decode cX12_twice 50 = .ok (.imul, 1) := by decide +kernel
theorem dX12_twice_51 : decode cX12_twice 51 = .ok (.iload_n 2, 1) := by decide +kernel
theorem dX12_twice_52 : decode cX12_twice 52 = .ok (.iadd, 1) := by decide +kernel
theorem dX12_twice_53 : decode cX12_twice 53 = .ok (.aload_n 0, 1) := by decide +kernel
theorem dX12_twice_54 : decode cX12_twice 54 = .ok (.getfield 130, 3) := by decide +kernel
theorem dX12_twice_57 : decode cX12_twice 57 = .ok (.sipush 640, 3) := by decide +kernel
theorem dX12_twice_60 : decode cX12_twice 60 = .ok (.iload_n 1, 1) := by decide +kernel
theorem dX12_twice_61 : decode cX12_twice 61 = .ok (.imul, 1) := by decide +kernel
theorem dX12_twice_62 : decode cX12_twice 62 = .ok (.iload_n 2, 1) := by decide +kernel
theorem dX12_twice_63 : decode cX12_twice 63 = .ok (.iadd, 1) := by decide +kernel
theorem dX12_twice_64 : decode cX12_twice 64 = .ok (.iaload, 1) := by decide +kernel
theorem dX12_twice_65 : decode cX12_twice 65 = .ok (.iastore, 1) := by decide +kernel
theorem dX12_twice_66 : decode cX12_twice 66 = .ok (.iinc 2 1, 3) := by decide +kernel
theorem dX12_twice_69 : decode cX12_twice 69 = .ok (.goto (-37), 3) := by decide +kernel
theorem dX12_twice_72 : decode cX12_twice 72 = .ok (.aload_n 0, 1) := by decide +kernel
theorem dX12_twice_73 : decode cX12_twice 73 = .ok (.dup, 1) := by decide +kernel
theorem dX12_twice_74 : decode cX12_twice 74 = .ok (.getfield 428, 3) := by decide +kernel
theorem dX12_twice_77 : decode cX12_twice 77 = .ok (.iconst 1, 1) := by decide +kernel
theorem dX12_twice_78 : decode cX12_twice 78 = .ok (.iadd, 1) := by decide +kernel
theorem dX12_twice_79 : decode cX12_twice 79 = .ok (.putfield 428, 3) := by decide +kernel
theorem dX12_twice_82 : decode cX12_twice 82 = .ok (.iconst 1, 1) := by decide +kernel
theorem dX12_twice_83 : decode cX12_twice 83 = .ok (.ireturn, 1) := by decide +kernel
theorem cd_twice : Cond.code yX12_twice cX12_twice 3 (some .boolean) ∈ lw_g := mt_at 2292 (by decide +kernel) rfl
section
variable {p : Program} {l : Launch} {e : Env} {R : Room} {s : State} {m : MethodId} {args : Array Value} {below : List Frame} {meth : Method} {c : Code} {cM : ClassId} {iS : Nat → Nat} {cI cZ : ClassId} {mo : Nat} {ad : Nat → Nat} {r : Int32} {S9 : mSt}
noncomputable def fm_twice_28 (S : mSt) : Option (Int32 × mSt) :=
ckz (0 : Int32) (some ((0 : Int32), S))
set_option maxRecDepth 100000 in
set_option maxHeartbeats 4000000 in
theorem wm_twice_28 (C : mY p R s m args meth c cX12_twice 3 1 22 (some .boolean)) (X : mX s cM iS cI cZ mo ad) : ∀ {S : mSt} {H : Heap} {locs : List Loc} {ls : Array Slot}, fm_twice_28 S = some (r, S9) → mW cM iS cI cZ mo ad S H → mS (mA mo ad) s.heap H locs → lv_has ls 3 [] → W p l e R s m args below meth c H locs 0 0 (MQ below (mQw (some (.int r)) cM iS cI cZ mo ad S9) args s 0 0 (mA mo ad)) (F0 m 28 ls []) := by
  intro S H locs ls h hW hS hl
  unfold fm_twice_28 at h
  refine lv_iconst (v := 0) C.1 C.2.1 dX12_twice_28 (by decide) ?_
  obtain ⟨hzo, h⟩ := ckz_ok h
  cases h
  exact m_retzW C hzo hW hS dX12_twice_29
noncomputable def fm_twice_32 : Nat → mSt → Int32 → Int32 → Option (Int32 × mSt)
  | 0, _, _, _ => none
  | n + 1, S, v1, v2 =>
    if (640 : Int32) ≤ v2 then (
    lt (pu S 42 ((S.1 42) + (1 : Int32))) fun S2 =>
    ckz (1 : Int32) (some ((1 : Int32), S2)))
    else (
    ck (((640 : Int32) * v1) + v2) 38400 (
    ck (((640 : Int32) * (S.1 42)) + v2) 38400 (lt (wr S 46 (((640 : Int32) * (S.1 42)) + v2) (rd S 46 (((640 : Int32) * v1) + v2))) fun S3 =>
    lt (v2 + (1 : Int32)) fun x4 =>
    fm_twice_32 n S3 v1 x4)))
set_option maxRecDepth 100000 in
set_option maxHeartbeats 4000000 in
theorem wm_twice_32 (C : mY p R s m args meth c cX12_twice 3 1 22 (some .boolean)) (X : mX s cM iS cI cZ mo ad) : ∀ (n : Nat), ∀ {S : mSt} {v1 : Int32} {v2 : Int32} {H : Heap} {locs : List Loc} {ls : Array Slot}, fm_twice_32 n S v1 v2 = some (r, S9) → mW cM iS cI cZ mo ad S H → mS (mA mo ad) s.heap H locs → lv_has ls 3 [(0, .ref mo), (1, .int v1), (2, .int v2)] → W p l e R s m args below meth c H locs 0 0 (MQ below (mQw (some (.int r)) cM iS cI cZ mo ad S9) args s 0 0 (mA mo ad)) (F0 m 32 ls []) := by
  intro n
  induction n with
  | zero =>
    intro S v1 v2 H locs ls h hW hS hl
    exact absurd (show (none : Option (Int32 × mSt)) = _ from h) (fun q => by cases q)
  | succ n ih =>
    intro S v1 v2 H locs ls h hW hS hl
    rw [fm_twice_32] at h
    refine lv_iload_n C.1 C.2.1 dX12_twice_32 rfl (lv_at hl 2 rfl) ?_
    refine lv_sipush (v := 640) C.1 C.2.1 dX12_twice_33 (by decide) ?_
    refine lv_icmp_ge (tgt := 72) C.1 C.2.1 dX12_twice_36 (by decide) (fun c1 => ?_) (fun c1 => ?_)
    · have h := if_t h c1
      refine lv_aload_n C.1 C.2.1 dX12_twice_72 rfl (lv_at hl 0 rfl) ?_
      refine lv_dup C.1 C.2.1 dX12_twice_73 rfl ?_
      refine gf_42 C X hW dX12_twice_74 ?_
      refine lv_iconst (v := 1) C.1 C.2.1 dX12_twice_77 (by decide) ?_
      refine lv_iadd C.1 C.2.1 dX12_twice_78 ?_
      refine p_42 C X hW hS dX12_twice_79 (fun H locs hW hS => ?_)
      refine lt_ok h (fun S2 e_S2 h => ?_)
      rw [e_S2] at hW
      refine lv_iconst (v := 1) C.1 C.2.1 dX12_twice_82 (by decide) ?_
      obtain ⟨hzo, h⟩ := ckz_ok h
      cases h
      exact m_retzW C hzo hW hS dX12_twice_83
    · have h := if_f h c1
      refine lv_aload_n C.1 C.2.1 dX12_twice_39 rfl (lv_at hl 0 rfl) ?_
      refine gf_46 C X hW dX12_twice_40 ?_
      refine lv_sipush (v := 640) C.1 C.2.1 dX12_twice_43 (by decide) ?_
      refine lv_aload_n C.1 C.2.1 dX12_twice_46 rfl (lv_at hl 0 rfl) ?_
      refine gf_42 C X hW dX12_twice_47 ?_
      refine lv_imul C.1 C.2.1 dX12_twice_50 ?_
      refine lv_iload_n C.1 C.2.1 dX12_twice_51 rfl (lv_at hl 2 rfl) ?_
      refine lv_iadd C.1 C.2.1 dX12_twice_52 ?_
      refine lv_aload_n C.1 C.2.1 dX12_twice_53 rfl (lv_at hl 0 rfl) ?_
      refine gf_46 C X hW dX12_twice_54 ?_
      refine lv_sipush (v := 640) C.1 C.2.1 dX12_twice_57 (by decide) ?_
      refine lv_iload_n C.1 C.2.1 dX12_twice_60 rfl (lv_at hl 1 rfl) ?_
      refine lv_imul C.1 C.2.1 dX12_twice_61 ?_
      refine lv_iload_n C.1 C.2.1 dX12_twice_62 rfl (lv_at hl 2 rfl) ?_
      refine lv_iadd C.1 C.2.1 dX12_twice_63 ?_
      obtain ⟨hin, h⟩ := ck_ok h
      refine l_46 C X hW hin dX12_twice_64 ?_
      obtain ⟨hin, h⟩ := ck_ok h
      refine s_46 C X hW hS hin dX12_twice_65 (fun H locs hW hS => ?_)
      refine lt_ok h (fun S3 e_S3 h => ?_)
      rw [e_S3] at hW
      refine lt_ok h (fun x4 e_x4 h => ?_)
      refine lv_iinc (v := x4) (lv' := [(2, .int x4), (0, .ref mo), (1, .int v1)]) C.1 C.2.1 dX12_twice_66 hl (k := 2) rfl (by rw [← e_x4]; rfl) (by decide) rfl (fun ls hl => ?_)
      refine lv_goto (tgt := 32) C.1 C.2.1 dX12_twice_69 (by decide) ?_
      exact ih h hW hS (lv_sub hl [1, 2, 0] rfl)
noncomputable def fm_twice (S : mSt) (v1 : Int32) : Option (Int32 × mSt) :=
lt (pu S 0 (0 : Int32)) fun S1 =>
bd (fm_within v1 (0 : Int32) ((S1.1 42) - (1 : Int32))) fun r2 =>
if r2 = 0 then (
fm_twice_28 S1)
else (
if (S1.1 42) = (60 : Int32) then (
fm_twice_28 S1)
else (
fm_twice_32 mFU S1 v1 (0 : Int32)))
set_option maxRecDepth 100000 in
set_option maxHeartbeats 4000000 in
theorem tm_twice (l : Launch) {cM : ClassId} {iS : Nat → Nat} {cI cZ : ClassId} {mo : Nat} {ad : Nat → Nat} {S : mSt} {v1 : Int32} {r : Int32} {S9 : mSt} (h : fm_twice S v1 = some (r, S9)) : Met l yX12_twice (Cond.code yX12_twice cX12_twice 3 (some .boolean) :: lw_g) { frames := 1, cells := 0, slots := 0, locals := 22 } (mPi [.int v1] cM iS cI cZ mo ad S) (mQw (some (.int r)) cM iS cI cZ mo ad S9) 0 0 (mA mo ad) := by
  refine Met.ofW (cc := cX12_twice) (maxL := 3) (ret := (some .boolean)) (by decide) rfl ?_
  intro p e s m args below meth c s₁ B hml hv
  obtain ⟨rfl, hW, X⟩ := hv
  have C : mY p (headSpec (Cond.code yX12_twice cX12_twice 3 (some .boolean) :: lw_g) { frames := 1, cells := 0, slots := 0, locals := 22 }).room s m _ meth c cX12_twice 3 1 22 (some .boolean) := ⟨B.exec, B.bytes, hml, findClass_of_methodNamed B.named, fun w hw => atoms_spec (ws := Cond.code yX12_twice cX12_twice 3 (some .boolean) :: lw_g) B.pre w (List.mem_cons_of_mem _ hw), ⟨Nat.le_refl _, Nat.le_refl _⟩, B.returns, B.notSynchronized⟩
  have hl := lv_entry ([.ref mo, .int v1]) (n := 3) (Nat.le_of_ble_eq_true rfl)
  rw [lg_entry_eq]
  generalize (lg_sl ([.ref mo, .int v1]) ++ List.replicate (3 - (lg_sl ([.ref mo, .int v1])).length) Slot.unset).toArray = ls at hl ⊢
  have hl : lv_has ls 3 [(0, .ref mo), (1, .int v1)] := hl
  have hS : mS (mA mo ad) s.heap s.heap [] := mS.rf
  unfold fm_twice at h
  refine lv_aload_n C.1 C.2.1 dX12_twice_0 rfl (lv_at hl 0 rfl) ?_
  refine lv_iconst (v := 0) C.1 C.2.1 dX12_twice_1 (by decide) ?_
  refine p_0 C X hW hS dX12_twice_2 (fun H locs hW hS => ?_)
  refine lt_ok h (fun S1 e_S1 h => ?_)
  rw [e_S1] at hW
  refine lv_iload_n C.1 C.2.1 dX12_twice_5 rfl (lv_at hl 1 rfl) ?_
  refine lv_iconst (v := 0) C.1 C.2.1 dX12_twice_6 (by decide) ?_
  refine lv_aload_n C.1 C.2.1 dX12_twice_7 rfl (lv_at hl 0 rfl) ?_
  refine gf_42 C X hW dX12_twice_8 ?_
  refine lv_iconst (v := 1) C.1 C.2.1 dX12_twice_11 (by decide) ?_
  refine lv_isub C.1 C.2.1 dX12_twice_12 ?_
  obtain ⟨r2, h_r2, h⟩ := bd_ok h
  refine m_callS (rest := []) C hl.1 [.int v1, .int (0 : Int32), .int ((S1.1 42) - (1 : Int32))] (tm_within l h_r2) mw_within st_within rfl ⟨by decide, by decide⟩ rfl (Nat.le_of_ble_eq_true rfl) dX12_twice_13 ?_
  refine lv_if_eq (tgt := 28) C.1 C.2.1 dX12_twice_16 (by decide) (fun c3 => ?_) (fun c3 => ?_)
  · have h := if_t h c3
    exact wm_twice_28 C X h hW hS (lv_sub hl [] rfl)
  · have h := if_f h c3
    refine lv_aload_n C.1 C.2.1 dX12_twice_19 rfl (lv_at hl 0 rfl) ?_
    refine gf_42 C X hW dX12_twice_20 ?_
    refine lv_bipush (v := 60) C.1 C.2.1 dX12_twice_23 (by decide) ?_
    refine lv_icmp_ne (tgt := 30) C.1 C.2.1 dX12_twice_25 (by decide) (fun c4 => ?_) (fun c4 => ?_)
    · have h := if_f h c4
      refine lv_iconst (v := 0) C.1 C.2.1 dX12_twice_30 (by decide) ?_
      refine lv_istore_n (lv' := [(2, .int (0 : Int32)), (0, .ref mo), (1, .int v1)]) C.1 C.2.1 dX12_twice_31 rfl hl (by decide) rfl (fun ls hl => ?_)
      exact wm_twice_32 C X mFU h hW hS (lv_sub hl [1, 2, 0] rfl)
    · have h := if_t h c4
      exact wm_twice_28 C X h hW hS (lv_sub hl [] rfl)
end
theorem dX12_raise_0 : decode cX12_raise 0 = .ok (.aload_n 0, 1) := by decide +kernel
theorem dX12_raise_1 : decode cX12_raise 1 = .ok (.getfield 65, 3) := by decide +kernel
theorem dX12_raise_4 : decode cX12_raise 4 = .ok (.iload_n 1, 1) := by decide +kernel
theorem dX12_raise_5 : decode cX12_raise 5 = .ok (.iload_n 2, 1) := by decide +kernel
theorem dX12_raise_6 : decode cX12_raise 6 = .ok (.aload_n 0, 1) := by decide +kernel
theorem dX12_raise_7 : decode cX12_raise 7 = .ok (.getfield 65, 3) := by decide +kernel
theorem dX12_raise_10 : decode cX12_raise 10 = .ok (.iload_n 1, 1) := by decide +kernel
theorem dX12_raise_11 : decode cX12_raise 11 = .ok (.iaload, 1) := by decide +kernel
theorem dX12_raise_12 : decode cX12_raise 12 = .ok (.if_icmp .le 7, 3) := by decide +kernel
theorem dX12_raise_15 : decode cX12_raise 15 = .ok (.iload_n 2, 1) := by decide +kernel
theorem dX12_raise_16 : decode cX12_raise 16 = .ok (.goto 9, 3) := by decide +kernel
theorem dX12_raise_19 : decode cX12_raise 19 = .ok (.aload_n 0, 1) := by decide +kernel
theorem dX12_raise_20 : decode cX12_raise 20 = .ok (.getfield 65, 3) := by decide +kernel
theorem dX12_raise_23 : decode cX12_raise 23 = .ok (.iload_n 1, 1) := by decide +kernel
theorem dX12_raise_24 : decode cX12_raise 24 = .ok (.iaload, 1) := by decide +kernel
theorem dX12_raise_25 : decode cX12_raise 25 = .ok (.iastore, 1) := by decide +kernel
theorem dX12_raise_26 : decode cX12_raise 26 = .ok (.return_, 1) := by decide +kernel
theorem cd_raise : Cond.code yX12_raise cX12_raise 3 none ∈ lw_g := mt_at 2300 (by decide +kernel) rfl
theorem mw_raise : mCw 488 yX12_raise cX12_raise 3 none 2 := ⟨cd_raise, mt_at 2297 (by decide +kernel) rfl, in_M, by decide +kernel⟩
theorem im_raise : Cond.instanceMethod yX12_raise ∈ lw_g := mt_at 2299 (by decide +kernel) rfl
theorem sl_raise : Cond.selects RX12 yX12_raise yX12_raise ∈ lw_g := mt_sel 106 (by decide +kernel) rfl
section
variable {p : Program} {l : Launch} {e : Env} {R : Room} {s : State} {m : MethodId} {args : Array Value} {below : List Frame} {meth : Method} {c : Code} {cM : ClassId} {iS : Nat → Nat} {cI cZ : ClassId} {mo : Nat} {ad : Nat → Nat} {r : Int32} {S9 : mSt}
noncomputable def fm_raise_25 (S : mSt) (s1 : Int32) (s2 : Int32) : Option (mSt) :=
ck s1 64 (lt (wr S 21 s1 s2) fun S1 =>
some S1)
set_option maxRecDepth 100000 in
set_option maxHeartbeats 4000000 in
theorem wm_raise_25 (C : mY p R s m args meth c cX12_raise 3 0 0 none) (X : mX s cM iS cI cZ mo ad) : ∀ {S : mSt} {s1 : Int32} {s2 : Int32} {H : Heap} {locs : List Loc} {ls : Array Slot}, fm_raise_25 S s1 s2 = some S9 → mW cM iS cI cZ mo ad S H → mS (mA mo ad) s.heap H locs → lv_has ls 3 [] → W p l e R s m args below meth c H locs 0 0 (MQ below (mQw none cM iS cI cZ mo ad S9) args s 0 0 (mA mo ad)) (F0 m 25 ls [.int s2, .int s1, .ref (ad 21)]) := by
  intro S s1 s2 H locs ls h hW hS hl
  unfold fm_raise_25 at h
  obtain ⟨hin, h⟩ := ck_ok h
  refine s_21 C X hW hS hin dX12_raise_25 (fun H locs hW hS => ?_)
  refine lt_ok h (fun S1 e_S1 h => ?_)
  rw [e_S1] at hW
  cases h
  exact m_retvW C hW hS dX12_raise_26
noncomputable def fm_raise (S : mSt) (v1 : Int32) (v2 : Int32) : Option (mSt) :=
ck v1 64 (
if v2 ≤ (rd S 21 v1) then (
ck v1 64 (
fm_raise_25 S v1 (rd S 21 v1)))
else (
fm_raise_25 S v1 v2))
set_option maxRecDepth 100000 in
set_option maxHeartbeats 4000000 in
theorem tm_raise (l : Launch) {cM : ClassId} {iS : Nat → Nat} {cI cZ : ClassId} {mo : Nat} {ad : Nat → Nat} {S : mSt} {v1 : Int32} {v2 : Int32} {S9 : mSt} (h : fm_raise S v1 v2 = some S9) : Met l yX12_raise (Cond.code yX12_raise cX12_raise 3 none :: lw_g) { frames := 0, cells := 0, slots := 0, locals := 0 } (mPi [.int v1, .int v2] cM iS cI cZ mo ad S) (mQw none cM iS cI cZ mo ad S9) 0 0 (mA mo ad) := by
  refine Met.ofW (cc := cX12_raise) (maxL := 3) (ret := none) (by decide) rfl ?_
  intro p e s m args below meth c s₁ B hml hv
  obtain ⟨rfl, hW, X⟩ := hv
  have C : mY p (headSpec (Cond.code yX12_raise cX12_raise 3 none :: lw_g) { frames := 0, cells := 0, slots := 0, locals := 0 }).room s m _ meth c cX12_raise 3 0 0 none := ⟨B.exec, B.bytes, hml, findClass_of_methodNamed B.named, fun w hw => atoms_spec (ws := Cond.code yX12_raise cX12_raise 3 none :: lw_g) B.pre w (List.mem_cons_of_mem _ hw), ⟨Nat.le_refl _, Nat.le_refl _⟩, B.returns, B.notSynchronized⟩
  have hl := lv_entry ([.ref mo, .int v1, .int v2]) (n := 3) (Nat.le_of_ble_eq_true rfl)
  rw [lg_entry_eq]
  generalize (lg_sl ([.ref mo, .int v1, .int v2]) ++ List.replicate (3 - (lg_sl ([.ref mo, .int v1, .int v2])).length) Slot.unset).toArray = ls at hl ⊢
  have hl : lv_has ls 3 [(0, .ref mo), (1, .int v1), (2, .int v2)] := hl
  have hS : mS (mA mo ad) s.heap s.heap [] := mS.rf
  unfold fm_raise at h
  refine lv_aload_n C.1 C.2.1 dX12_raise_0 rfl (lv_at hl 0 rfl) ?_
  refine gf_21 C X hW dX12_raise_1 ?_
  refine lv_iload_n C.1 C.2.1 dX12_raise_4 rfl (lv_at hl 1 rfl) ?_
  refine lv_iload_n C.1 C.2.1 dX12_raise_5 rfl (lv_at hl 2 rfl) ?_
  refine lv_aload_n C.1 C.2.1 dX12_raise_6 rfl (lv_at hl 0 rfl) ?_
  refine gf_21 C X hW dX12_raise_7 ?_
  refine lv_iload_n C.1 C.2.1 dX12_raise_10 rfl (lv_at hl 1 rfl) ?_
  obtain ⟨hin, h⟩ := ck_ok h
  refine l_21 C X hW hin dX12_raise_11 ?_
  refine lv_icmp_le (tgt := 19) C.1 C.2.1 dX12_raise_12 (by decide) (fun c1 => ?_) (fun c1 => ?_)
  · have h := if_t h c1
    refine lv_aload_n C.1 C.2.1 dX12_raise_19 rfl (lv_at hl 0 rfl) ?_
    refine gf_21 C X hW dX12_raise_20 ?_
    refine lv_iload_n C.1 C.2.1 dX12_raise_23 rfl (lv_at hl 1 rfl) ?_
    obtain ⟨hin, h⟩ := ck_ok h
    refine l_21 C X hW hin dX12_raise_24 ?_
    exact wm_raise_25 C X h hW hS (lv_sub hl [] rfl)
  · have h := if_f h c1
    refine lv_iload_n C.1 C.2.1 dX12_raise_15 rfl (lv_at hl 2 rfl) ?_
    refine lv_goto (tgt := 25) C.1 C.2.1 dX12_raise_16 (by decide) ?_
    exact wm_raise_25 C X h hW hS (lv_sub hl [] rfl)
end
